section STEP5
variable {G : eG} {p : Program} {l : Launch} {e : Env} {R : Room} {s : State} {mid : MethodId} {args : Array Value} {below : List Frame} {meth : Method} {c : Code} {Q : State → Prop} {h0 s0 μ : Nat}
variable {pc pc' npc : Nat} {ls ls' st st' : List Value} {m m' : eM} {ad : Nat → Nat} {H : Heap} {locs : List Loc} {la : Array Slot}
theorem eH_t {k : Jvm.ClassFile.Cond} {x y : Int32} {A : Prop} (h : eH k x y = true → A) : match k with
    | .eq => x = y → A
    | .ne => ¬ x = y → A
    | .lt => x < y → A
    | .ge => y ≤ x → A
    | .gt => y < x → A
    | .le => x ≤ y → A := by
  cases k <;> exact fun z => h (decide_eq_true z)
theorem eH_f {k : Jvm.ClassFile.Cond} {x y : Int32} {A : Prop} (h : ¬ eH k x y = true → A) : match k with
    | .eq => ¬ x = y → A
    | .ne => x = y → A
    | .lt => ¬ x < y → A
    | .ge => ¬ y ≤ x → A
    | .gt => ¬ y < x → A
    | .le => ¬ x ≤ y → A := by
  cases k <;> first | exact fun z => h (fun w => z (of_decide_eq_true w)) | exact fun z => h (fun w => (of_decide_eq_true w) z)
theorem lenOK_1 {i : Instr} {n : Nat} (h : lenOK i n = true) (h1 : lenOK i n = (n == 1)) : n = 1 := by rw [h1] at h; exact eq_of_beq h
set_option maxHeartbeats 4000000 in
theorem alu_snd (F : FR G p s mid args meth c μ) {i : Instr} {len d : Nat} (hd : decode (mB μ) pc = .ok (i, len)) (hlen : lenOK i len = true) (hR : d ≤ R.frames) (hL : 40 * d ≤ R.locals) (hh : h0 ≤ gH m) (hs : s0 ≤ gS m) (hc0 : gH m - h0 ≤ R.cells) (hc1 : gS m - s0 ≤ R.slots) (hR1 : gH m' - h0 ≤ R.cells) (hR2 : gS m' - s0 ≤ R.slots)
    (ha : alu (mC μ) (mIni μ) d i pc ls st m = some (pc', ls', st', m')) (o : eO G s μ m ad ls st H locs la) (kk : eK G p l e R s mid args below meth c Q h0 s0 μ m ad m' pc' ls' st') : eW p l e R s mid args below meth c Q h0 s0 m ad H locs la pc st := by
  have hx := F.1
  have hb := F.2.1
  have ho := F.2.2.2.2.2.1
  have hts := F.2.2.2.2.2.2.1
  have hlh := o.2.1.has
  rw [o.2.2.1] at hlh
  have z0 : (0 : Int32) = 0 := rfl
  cases i
  case iconst n =>
    obtain rfl : len = 1 := eq_of_beq hlen
    obtain ⟨rfl, rfl, rfl, rfl⟩ := eGo_inj ha
    exact lv_iconst hx hb hd rfl (kk ad H locs la (fun _ _ => rfl) (o.push trivial))
  case bipush n =>
    obtain rfl : len = 2 := eq_of_beq hlen
    obtain ⟨rfl, rfl, rfl, rfl⟩ := eGo_inj ha
    exact lv_bipush hx hb hd rfl (kk ad H locs la (fun _ _ => rfl) (o.push trivial))
  case sipush n =>
    obtain rfl : len = 3 := eq_of_beq hlen
    obtain ⟨rfl, rfl, rfl, rfl⟩ := eGo_inj ha
    exact lv_sipush hx hb hd rfl (kk ad H locs la (fun _ _ => rfl) (o.push trivial))
  case lconst n =>
    obtain rfl : len = 1 := eq_of_beq hlen
    obtain ⟨rfl, rfl, rfl, rfl⟩ := eGo_inj ha
    exact lv_lconst hx hb hd rfl (kk ad H locs la (fun _ _ => rfl) (o.push trivial))
  case ldc k =>
    obtain rfl : len = 2 := eq_of_beq hlen
    exact sn_C _ _ eNr_i (fun x rest h k => lv_ldc hx hb ho (hts _ (tKi _ (eR2_mem h))) hd k) ha o kk
  case ldc_w k =>
    obtain rfl : len = 3 := eq_of_beq hlen
    exact sn_C _ _ eNr_i (fun x rest h k => lv_ldcw hx hb ho (hts _ (tKi _ (eR2_mem h))) hd k) ha o kk
  case ldc2_w k =>
    obtain rfl : len = 3 := eq_of_beq hlen
    exact sn_C _ _ eNr_l (fun x rest h k => lv_ldc2 hx hb ho (hts _ (tKl _ (eR2_mem h))) hd k) ha o kk
  case iload i =>
    obtain rfl : len = 2 := eq_of_beq hlen
    exact sn_Ld (fun x rest _ h k => lv_iload hx hb hd h k) (fun x rest z => absurd z (by decide)) (fun x rest z => absurd z (by decide)) ha o kk
  case iload_n i =>
    obtain rfl : len = 1 := eq_of_beq hlen
    exact sn_Ld (fun x rest _ h k => lv_iload_n hx hb hd rfl h k) (fun x rest z => absurd z (by decide)) (fun x rest z => absurd z (by decide)) ha o kk
  case lload i =>
    obtain rfl : len = 2 := eq_of_beq hlen
    exact sn_Ld (fun x rest z => absurd z (by decide)) (fun x rest _ h k => lv_lload hx hb hd h k) (fun x rest z => absurd z (by decide)) ha o kk
  case lload_n i =>
    obtain rfl : len = 1 := eq_of_beq hlen
    exact sn_Ld (fun x rest z => absurd z (by decide)) (fun x rest _ h k => lv_lload_n hx hb hd rfl h k) (fun x rest z => absurd z (by decide)) ha o kk
  case aload i =>
    obtain rfl : len = 2 := eq_of_beq hlen
    exact sn_Ld (fun x rest z => absurd z (by decide)) (fun x rest z => absurd z (by decide)) (fun x rest _ h k => lv_aload hx hb hd h k) ha o kk
  case aload_n i =>
    obtain rfl : len = 1 := eq_of_beq hlen
    exact sn_Ld (fun x rest z => absurd z (by decide)) (fun x rest z => absurd z (by decide)) (fun x rest _ h k => lv_aload_n hx hb hd rfl h k) ha o kk
  case istore i =>
    obtain rfl : len = 2 := eq_of_beq hlen
    exact sn_St (fun x rest _ hi k => lv_istore hx hb hd hlh hi rfl k) (fun x rest z => absurd z (by decide)) (fun x rest z => absurd z (by decide)) ha o kk
  case istore_n i =>
    obtain rfl : len = 1 := eq_of_beq hlen
    exact sn_St (fun x rest _ hi k => lv_istore_n hx hb hd rfl hlh hi rfl k) (fun x rest z => absurd z (by decide)) (fun x rest z => absurd z (by decide)) ha o kk
  case lstore i =>
    obtain rfl : len = 2 := eq_of_beq hlen
    exact sn_St (fun x rest z => absurd z (by decide)) (fun x rest _ hi k => lv_lstore hx hb hd hlh hi rfl k) (fun x rest z => absurd z (by decide)) ha o kk
  case lstore_n i =>
    obtain rfl : len = 1 := eq_of_beq hlen
    exact sn_St (fun x rest z => absurd z (by decide)) (fun x rest _ hi k => lv_lstore_n hx hb hd rfl hlh hi rfl k) (fun x rest z => absurd z (by decide)) ha o kk
  case astore i =>
    obtain rfl : len = 2 := eq_of_beq hlen
    exact sn_St (fun x rest z => absurd z (by decide)) (fun x rest z => absurd z (by decide)) (fun x rest _ hi k => lv_astore hx hb hd hlh hi rfl k) ha o kk
  case astore_n i =>
    obtain rfl : len = 1 := eq_of_beq hlen
    exact sn_St (fun x rest z => absurd z (by decide)) (fun x rest z => absurd z (by decide)) (fun x rest _ hi k => lv_astore_n hx hb hd rfl hlh hi rfl k) ha o kk
  case iinc i n =>
    obtain rfl : len = 3 := eq_of_beq hlen
    have ha : (match ls[i]? with
      | some (.int x) => eGo (pc + 3) (eSet1 ls i (.int (x + Int32.ofInt n))) st m
      | _ => none) = some (pc', ls', st', m') := ha
    split at ha
    · rename_i x hl
      obtain ⟨rfl, rfl, rfl, rfl⟩ := eGo_inj ha
      have hmem : (i, Value.int x) ∈ eAsc ad ls := eAsc_mem.mpr ⟨_, hl, (fun z => by cases z), rfl⟩
      obtain ⟨k, hk⟩ := List.getElem?_of_mem hmem
      exact lv_iinc hx hb hd hlh hk rfl (o.2.2.1 ▸ (List.getElem?_eq_some_iff.mp hl).1) rfl fun la' h => kk ad H locs la' (fun _ _ => rfl) ⟨o.1, LR.set1 (v := .int (x + Int32.ofInt n)) (o.2.2.1.symm ▸ h), by rw [eSet1_len]; exact o.2.2.1, o.2.2.2.1, eSet1_rv o.2.2.2.2.1 trivial, o.2.2.2.2.2⟩
    · cases ha
  case iadd =>
    obtain rfl : len = 1 := eq_of_beq hlen
    exact sn_2I _ (fun _ _ => eNr_i _) (fun x y rest k => lv_iadd hx hb hd k) ha o kk
  case isub =>
    obtain rfl : len = 1 := eq_of_beq hlen
    exact sn_2I _ (fun _ _ => eNr_i _) (fun x y rest k => lv_isub hx hb hd k) ha o kk
  case imul =>
    obtain rfl : len = 1 := eq_of_beq hlen
    exact sn_2I _ (fun _ _ => eNr_i _) (fun x y rest k => lv_imul hx hb hd k) ha o kk
  case iand =>
    obtain rfl : len = 1 := eq_of_beq hlen
    exact sn_2I _ (fun _ _ => eNr_i _) (fun x y rest k => lv_iand hx hb hd k) ha o kk
  case ior =>
    obtain rfl : len = 1 := eq_of_beq hlen
    exact sn_2I _ (fun _ _ => eNr_i _) (fun x y rest k => lv_ior hx hb hd k) ha o kk
  case ixor =>
    obtain rfl : len = 1 := eq_of_beq hlen
    exact sn_2I _ (fun _ _ => eNr_i _) (fun x y rest k => lv_ixor hx hb hd k) ha o kk
  case ishl =>
    obtain rfl : len = 1 := eq_of_beq hlen
    exact sn_2I _ (fun _ _ => eNr_i _) (fun x y rest k => lv_ishl hx hb hd k) ha o kk
  case ishr =>
    obtain rfl : len = 1 := eq_of_beq hlen
    exact sn_2I _ (fun _ _ => eNr_i _) (fun x y rest k => lv_ishr hx hb hd k) ha o kk
  case iushr =>
    obtain rfl : len = 1 := eq_of_beq hlen
    exact sn_2I _ (fun _ _ => eNr_i _) (fun x y rest k => lv_iushr hx hb hd rfl k) ha o kk
  case idiv =>
    obtain rfl : len = 1 := eq_of_beq hlen
    exact sn_Div _ (fun _ _ => eNr_i _) (fun x y rest h k => lv_idiv hx hb hd h k) ha o kk
  case irem =>
    obtain rfl : len = 1 := eq_of_beq hlen
    exact sn_Div _ (fun _ _ => eNr_i _) (fun x y rest h k => lv_irem hx hb hd h k) ha o kk
  case ldiv =>
    obtain rfl : len = 1 := eq_of_beq hlen
    exact sn_DivL _ (fun _ _ => eNr_l _) (fun x y rest h k => lv_ldiv hx hb hd h k) ha o kk
  case lrem =>
    obtain rfl : len = 1 := eq_of_beq hlen
    exact sn_DivL _ (fun _ _ => eNr_l _) (fun x y rest h k => lv_lrem hx hb hd h k) ha o kk
  case ineg =>
    obtain rfl : len = 1 := eq_of_beq hlen
    exact sn_1I _ (fun _ => eNr_i _) (fun x rest k => lv_ineg hx hb hd k) ha o kk
  case ladd =>
    obtain rfl : len = 1 := eq_of_beq hlen
    exact sn_2L _ (fun _ _ => eNr_l _) (fun x y rest k => lv_ladd hx hb hd k) ha o kk
  case lsub =>
    obtain rfl : len = 1 := eq_of_beq hlen
    exact sn_2L _ (fun _ _ => eNr_l _) (fun x y rest k => lv_lsub hx hb hd k) ha o kk
  case lmul =>
    obtain rfl : len = 1 := eq_of_beq hlen
    exact sn_2L _ (fun _ _ => eNr_l _) (fun x y rest k => lv_lmul hx hb hd k) ha o kk
  case land =>
    obtain rfl : len = 1 := eq_of_beq hlen
    exact sn_2L _ (fun _ _ => eNr_l _) (fun x y rest k => lv_land hx hb hd k) ha o kk
  case lor =>
    obtain rfl : len = 1 := eq_of_beq hlen
    exact sn_2L _ (fun _ _ => eNr_l _) (fun x y rest k => lv_lor hx hb hd k) ha o kk
  case lxor =>
    obtain rfl : len = 1 := eq_of_beq hlen
    exact sn_2L _ (fun _ _ => eNr_l _) (fun x y rest k => lv_lxor hx hb hd k) ha o kk
  case lcmp =>
    obtain rfl : len = 1 := eq_of_beq hlen
    exact sn_2L _ (fun _ _ => eNr_i _) (fun x y rest k => W.lcmp hx hb hd k) ha o kk
  case lshl =>
    obtain rfl : len = 1 := eq_of_beq hlen
    exact sn_LI _ (fun _ _ => eNr_l _) (fun x y rest k => lv_lshl hx hb hd rfl k) ha o kk
  case lshr =>
    obtain rfl : len = 1 := eq_of_beq hlen
    exact sn_LI _ (fun _ _ => eNr_l _) (fun x y rest k => lv_lshr hx hb hd rfl k) ha o kk
  case lushr =>
    obtain rfl : len = 1 := eq_of_beq hlen
    exact sn_LI _ (fun _ _ => eNr_l _) (fun x y rest k => lv_lushr hx hb hd rfl k) ha o kk
  case i2l =>
    obtain rfl : len = 1 := eq_of_beq hlen
    exact sn_1I _ (fun _ => eNr_l _) (fun x rest k => lv_i2l hx hb hd rfl k) ha o kk
  case l2i =>
    obtain rfl : len = 1 := eq_of_beq hlen
    exact sn_1L _ (fun _ => eNr_i _) (fun x rest k => lv_l2i hx hb hd rfl k) ha o kk
  case i2c =>
    obtain rfl : len = 1 := eq_of_beq hlen
    exact sn_1I _ (fun _ => eNr_i _) (fun x rest k => lv_i2c hx hb hd rfl k) ha o kk
  case dup =>
    obtain rfl : len = 1 := eq_of_beq hlen
    exact sn_Dup (fun v rest h k => lv_dup hx hb hd h k) ha o kk
  case dup2 =>
    obtain rfl : len = 1 := eq_of_beq hlen
    exact sn_Dup2 (fun v rest h k => lv_dup2_2 hx hb hd h k) (fun v w rest h1 h2 k => lv_dup2_11 hx hb hd h1 h2 k) ha o kk
  case pop =>
    obtain rfl : len = 1 := eq_of_beq hlen
    exact sn_Pop (fun v rest h k => lv_pop hx hb hd h k) ha o kk
  case goto off =>
    obtain rfl : len = 3 := eq_of_beq hlen
    exact sn_Jmp off (fun rest tgt ht k => lv_goto hx hb hd ht k) ha o kk
  case ifCond k off =>
    obtain rfl : len = 3 := eq_of_beq hlen
    cases k with
    | eq => exact sn_If _ off (fun x rest tgt ht kt kf => lv_if_eq hx hb hd ht (eH_t (k := .eq) kt) (eH_f (k := .eq) kf)) ha o kk
    | ne => exact sn_If _ off (fun x rest tgt ht kt kf => lv_if_ne hx hb hd ht (eH_t (k := .ne) kt) (eH_f (k := .ne) kf)) ha o kk
    | lt => exact sn_If _ off (fun x rest tgt ht kt kf => lv_if_lt hx hb hd ht (eH_t (k := .lt) kt) (eH_f (k := .lt) kf)) ha o kk
    | ge => exact sn_If _ off (fun x rest tgt ht kt kf => lv_if_ge hx hb hd ht (eH_t (k := .ge) kt) (eH_f (k := .ge) kf)) ha o kk
    | gt => exact sn_If _ off (fun x rest tgt ht kt kf => lv_if_gt hx hb hd ht (eH_t (k := .gt) kt) (eH_f (k := .gt) kf)) ha o kk
    | le => exact sn_If _ off (fun x rest tgt ht kt kf => lv_if_le hx hb hd ht (eH_t (k := .le) kt) (eH_f (k := .le) kf)) ha o kk
  case if_icmp k off =>
    obtain rfl : len = 3 := eq_of_beq hlen
    cases k with
    | eq => exact sn_If2 _ off (fun x y rest tgt ht kt kf => lv_icmp_eq hx hb hd ht (eH_t (k := .eq) kt) (eH_f (k := .eq) kf)) ha o kk
    | ne => exact sn_If2 _ off (fun x y rest tgt ht kt kf => lv_icmp_ne hx hb hd ht (eH_t (k := .ne) kt) (eH_f (k := .ne) kf)) ha o kk
    | lt => exact sn_If2 _ off (fun x y rest tgt ht kt kf => lv_icmp_lt hx hb hd ht (eH_t (k := .lt) kt) (eH_f (k := .lt) kf)) ha o kk
    | ge => exact sn_If2 _ off (fun x y rest tgt ht kt kf => lv_icmp_ge hx hb hd ht (eH_t (k := .ge) kt) (eH_f (k := .ge) kf)) ha o kk
    | gt => exact sn_If2 _ off (fun x y rest tgt ht kt kf => lv_icmp_gt hx hb hd ht (eH_t (k := .gt) kt) (eH_f (k := .gt) kf)) ha o kk
    | le => exact sn_If2 _ off (fun x y rest tgt ht kt kf => lv_icmp_le hx hb hd ht (eH_t (k := .le) kt) (eH_f (k := .le) kf)) ha o kk
  case ifnonnull off =>
    obtain rfl : len = 3 := eq_of_beq hlen
    exact sn_Nn off (fun x rest tgt ht k => lv_ifnonnull hx hb hd ht k) ha o kk
  case tableswitch dflt lo hi offs =>
    exact sn_Tab dflt lo hi offs (fun x rest tgt h ht k => lv_tableOut hx hb hd h ht k) (fun x rest tgt off h1 h2 h3 ht k => lv_tableIn hx hb hd h1 h2 h3 ht k) ha o kk
  case getfield k =>
    obtain rfl : len = 3 := eq_of_beq hlen
    exact sn_GetF F hd ha o kk
  case putfield k =>
    obtain rfl : len = 3 := eq_of_beq hlen
    exact sn_PutF F hd ha o kk
  case getstatic k =>
    obtain rfl : len = 3 := eq_of_beq hlen
    exact sn_Gets F hd ha o kk
  case arraylength =>
    obtain rfl : len = 1 := eq_of_beq hlen
    exact sn_Alen (fun cell a ty n rest h1 h2 h3 k => W.alen hx hb h1 h2 h3 rfl rfl hd k) ha o kk
  case iaload =>
    obtain rfl : len = 1 := eq_of_beq hlen
    exact sn_Ald (k := 20) (by decide) (fun cell a j v rest h1 h2 h3 h4 h5 k => W.iald hx hb h1 h2 h3 h4 h5 rfl rfl hd k) ha o kk
  case laload =>
    obtain rfl : len = 1 := eq_of_beq hlen
    exact sn_Ald (k := 21) (by decide) (fun cell a j v rest h1 h2 h3 h4 h5 k => W.lald hx hb h1 h2 h3 h4 h5 rfl rfl hd k) ha o kk
  case caload =>
    obtain rfl : len = 1 := eq_of_beq hlen
    exact sn_Ald (k := 22) (by decide) (fun cell a j v rest h1 h2 h3 h4 h5 k => W.cald hx hb h1 h2 h3 h4 h5 rfl rfl hd k) ha o kk
  case baload =>
    obtain rfl : len = 1 := eq_of_beq hlen
    exact sn_Ald (k := 23) (by decide) (fun cell a j v rest h1 h2 h3 h4 h5 k => W.zald hx hb h1 h2 h3 h4 h5 rfl rfl hd k) ha o kk
  case aaload =>
    obtain rfl : len = 1 := eq_of_beq hlen
    exact sn_Ald (k := 24) (by decide) (fun cell a j v rest h1 h2 h3 h4 h5 k => W.aald hx hb h1 h2 rfl h3 h4 h5 rfl rfl hd k) ha o kk
  case iastore =>
    obtain rfl : len = 1 := eq_of_beq hlen
    exact sn_Ast (k := 20) (by decide) (by decide) _ (fun cell a j x rest h1 h2 h3 h4 k => W.iast hx hb h1 h2 h3 h4 rfl rfl hd k) ha o kk
  case castore =>
    obtain rfl : len = 1 := eq_of_beq hlen
    exact sn_Ast (k := 22) (by decide) (by decide) _ (fun cell a j x rest h1 h2 h3 h4 k => W.cast hx hb h1 h2 h3 h4 rfl rfl hd k) ha o kk
  case bastore =>
    obtain rfl : len = 1 := eq_of_beq hlen
    exact sn_Ast (k := 23) (by decide) (by decide) _ (fun cell a j x rest h1 h2 h3 h4 k => W.zast hx hb h1 h2 h3 h4 rfl rfl hd k) ha o kk
  case lastore =>
    obtain rfl : len = 1 := eq_of_beq hlen
    exact sn_AstL (fun cell a j x rest h1 h2 h3 h4 k => W.last hx hb h1 h2 h3 h4 rfl rfl hd k) ha o kk
  case aastore =>
    obtain rfl : len = 1 := eq_of_beq hlen
    exact sn_AstR F hd ha o kk
  case new k =>
    obtain rfl : len = 3 := eq_of_beq hlen
    exact sn_New F hd hh hs hR1 hR2 ha o kk
  case newarray t =>
    obtain rfl : len = 2 := eq_of_beq hlen
    exact sn_NewA F hd hh hs hR1 hR2 ha o kk
  case anewarray k =>
    obtain rfl : len = 3 := eq_of_beq hlen
    have ha : (if nRes (mC μ) k = some 6 then eNewA 24 pc 3 ls st m else none) = some (pc', ls', st', m') := ha
    split at ha
    · rename_i h6
      exact sn_ANew F hd hh hs hR1 hR2 h6 ha o kk
    · cases ha
  case invokespecial k =>
    obtain rfl : len = 3 := eq_of_beq hlen
    refine sn_Obj (fun x rest h1 h2 h3 k9 => ?_) ha o kk
    have hm : (mC μ, k) ∈ eOi := List.contains_iff_mem.mp h1
    exact W.objInit hx hb ho (hts _ (tOi _ hm)) (hts _ tObj.1) (hts _ tObj.2) rfl (by rw [F.2.2.1]; exact o.2.1.1.trans o.2.2.1) rfl hd (by omega) (by unfold eCat at h3; show 2 * 0 + _ + 12 ≤ _; omega) k9
  case invokestatic k =>
    obtain rfl : len = 3 := eq_of_beq hlen
    exact sn_Math F hd hR hL hc0 hc1 ha o kk
  all_goals cases ha
end STEP5
