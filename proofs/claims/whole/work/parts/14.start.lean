/-! THE CLAIM OUT OF ONE WALK OF THE LAW'S BODY. Your part is whole_start (and what it stands on); all else here is the same for every law, but numbers. -/
def R_law : String := "LiarsCockLaw"
def lw_P (b : Addr) (xs : List Int32) (args : Array Value) (s : State) : Prop := args = #[.ref b] ∧ s.IntsAt b xs ∧ xs.length ≤ 3584 ∧ (Jvm.Cond.and given_1 narrow_1).before args s = true
def lw_Q (_ : Array Value) (s : State) (o : Outcome) (t : State) : Prop := o = .returned (some (.int 1)) ∧ Framed s o t [] 601024 7293034
def lw_Z (below : List Frame) (a : Array Value) (s : State) : State → Prop := fun t => ∃ o, t.status = .running ∧ Ended t below o ∧ lw_Q a s o t
/-- the law's own end, with 1 on the stack, nothing written that was there before, its room as the claim has it -/
theorem lw_ret {p : Program} {l : Launch} {e : Env} {s : State} {m : MethodId} {below : List Frame} {meth : Method} {c : Code} {b : Nat} (hx : p.tables.exec = Jvm.exec) (hb : c.code = code) (hr : meth.sig.returnType = ret) (hlocks : meth.locks = false) {pc : Nat} {H : Heap} {ls : Array Slot} (hdg : decode code pc = .ok (.ireturn, 1)) : W p l e room_1 s m #[Value.ref b] below meth c H [] 601024 7293034 (lw_Z below #[Value.ref b] s) (F0 m pc ls [.int 1]) := by
  intro T hT X
  obtain ⟨fs, hret, hrun, hended, hW, hframe⟩ := X.leave (v := some (.int 1)) (hlocks := hlocks) (fun h => by rw [hr] at h; cases h)
  have hmeth' : T.vm.method? m = some meth := X.method'
  refine ⟨T.setFrames fs, ?_, .returned (some (.int 1)), hrun, hended, rfl, ⟨_, rfl⟩, hW, hframe⟩
  jvm_step X.here [X.here.top, hx, hb, hdg, hmeth', hr, ret, narrow_b1]
  (try refine ⟨rfl, ?_⟩); (try refine ⟨rfl, ?_⟩)
  first | (intro acts; rw [hret _ acts rfl rfl rfl]) | rw [hret _ _ rfl rfl rfl]
  exact Steps.refl _
/-- what holds at the law's entry: the machine, the code, the tables' words (any of lw_tbl by 'hts w (by decide +kernel)'), the script of L ints xs at the cell b, what the Statement gives of the start (any of its parts by flat_of_before) -/
def lw_At (p : Program) (s : State) (m : MethodId) (meth : Method) (c : Code) (b L : Nat) (xs : Nat → Int32) : Prop :=
  p.tables.exec = Jvm.exec ∧ c.code = code ∧ meth.sig.returnType = ret ∧ c.maxLocals = 8 ∧ s.vm.findClass R_law = some m.cls ∧ (∀ w ∈ lw_tbl, w.before #[Value.ref b] s = true) ∧ va_X b L xs s s.heap ∧ b < s.heap.size ∧ meth.locks = false ∧ (Jvm.Cond.and given_1 narrow_1).before #[Value.ref b] s = true
/-! ===== from the law's entry into the interpreter ===== -/
def eFS (j : Nat) : Int64 := [(-6148914691236517206 : Int64), -3689348814741910324, -1085102592571150096, -71777214294589696, -281470681808896, -4294967296].getD j 0
def eTK (j : Nat) : Int64 := [(1717658484 : Int64), 109299962372965, 482854658917, 27696016923389543, 123581014175598, 24948, 461414299507, 109330228408174, 1668244331, 7102839, 1818326117, 7237492, 6385252, 28530].getD j 0
/-- the memory with which the law begins -/
def em0 (L : Nat) (xs : Nat → Int32) : eM := (fun a j => if a = 0 ∧ j < L then xs j else 0, fun a j => if a = 1 then eFS j else if a = 2 then eTK j else 0, fun _ _ => none, 3, 0, 0, L)
theorem tNest : (∀ t ∈ eMn, wMn t ∈ tables_1) ∧ (∀ t ∈ eFn, wFn t ∈ tables_1) ∧ (∀ x ∈ eDx, Cond.declares x ∈ tables_1) ∧ (∀ q ∈ eCx, Cond.castable q.1 q.2 ∈ tables_1) ∧ Cond.laysStatic "LiarsCock$Tape" "TAKEN" "[J" ∈ tables_1 ∧ Cond.laysStatic "LiarsCock" "FACT_SO" "[J" ∈ tables_1 ∧ Cond.laysStatic Bundle.tN "UNASSIGNED_STACK" Bundle.steD ∈ tables_1 ∧ Cond.laysStatic Bundle.tN "SUPPRESSED_SENTINEL" Bundle.listD ∈ tables_1 ∧ Cond.initialized Bundle.tN ∈ tables_1 ∧ Cond.stringRef "LiarsCock" 333 "no such saying, cock, chance, number of minutes or what" ∈ tables_1 ∧ Cond.stringRef "LiarsCock" 339 "no lie for this cock, or behind the last minute" ∈ tables_1 := by
  refine ⟨by decide +kernel, by decide +kernel, by decide +kernel, by decide +kernel, by decide +kernel, by decide +kernel, by decide +kernel, by decide +kernel, by decide +kernel, by decide +kernel, by decide +kernel⟩
def eNarrow : List Cond := flatC (Jvm.Cond.and given_1 narrow_1)
theorem tNar : Cond.arrayOf (.static "LiarsCock$Tape" "TAKEN" "[J") .long ∈ eNarrow ∧ Cond.arrayOf (.static "LiarsCock" "FACT_SO" "[J") .long ∈ eNarrow ∧ Cond.eq (.length (.static "LiarsCock$Tape" "TAKEN" "[J")) (.int 14) ∈ eNarrow ∧ Cond.eq (.length (.static "LiarsCock" "FACT_SO" "[J")) (.int 6) ∈ eNarrow ∧ Cond.isRef (.static Bundle.tN "UNASSIGNED_STACK" Bundle.steD) ∈ eNarrow ∧ Cond.isRef (.static Bundle.tN "SUPPRESSED_SENTINEL" Bundle.listD) ∈ eNarrow ∧ (∀ j ∈ List.range 14, Cond.eq (.elem (.static "LiarsCock$Tape" "TAKEN" "[J") (.int (Int32.ofNat j))) (.long (eTK j)) ∈ eNarrow) ∧ (∀ j ∈ List.range 6, Cond.eq (.elem (.static "LiarsCock" "FACT_SO" "[J") (.int (Int32.ofNat j))) (.long (eFS j)) ∈ eNarrow) := by
  refine ⟨by decide +kernel, by decide +kernel, by decide +kernel, by decide +kernel, by decide +kernel, by decide +kernel, by decide +kernel, by decide +kernel⟩
theorem kd_0 : kd 0 = 20 ∧ kd 1 = 21 ∧ kd 2 = 21 ∧ kl 1 = 6 ∧ kl 2 = 14 := by decide +kernel
theorem mLaw : mB eLaw = code ∧ mL eLaw = 8 ∧ mR eLaw = ret ∧ cN (mC eLaw) = R_law ∧ mIni eLaw = false := ⟨rfl, rfl, rfl, by decide +kernel, by decide +kernel⟩
/-- a static array at the start -/
theorem eArr0 {G : eG} {s : State} {m : eM} {ad : Nat → Nat} {a N : Nat} (hk : kd a = 21) (ha : a ≠ 0) (hl : kl a = N) {f : Nat → Value} {A : Nat → Prop} (hT : va_T .long (ad a) N f A s s.heap) (hf : ∀ j, j < N → f j = .long (gL m a j)) : eCell G s m ad s.heap a := by
  obtain ⟨cell, h1, h2, h3, h4, h5, h6, -⟩ := hT
  have en : aln m a = N := by unfold aln; rw [if_neg ha, hl]
  refine Or.inr ⟨by omega, by omega, cell, h1, by rw [hk]; exact h2, h3, by rw [en]; exact h4, by rw [en]; exact h5, fun j hj => ?_, fun z => by omega⟩
  rw [en] at hj
  rw [h6 j hj, hf j hj, hk]
  rfl
set_option maxHeartbeats 4000000 in
theorem start_of_run {p : Program} {e : Env} {s : State} {m : MethodId} {below : List Frame} {meth : Method} {c : Code} (l : Launch) (hflags : l.flags = flags0) {b L : Nat} {xs : Nat → Int32} (C0 : lw_At p s m meth c b L xs)
    (hrun : ∃ n m', run n 2000 eLaw 0 (eIni 8 [.ref 0]) [] (em0 L xs) = some (some (some (.int 1)), m') ∧ gH m' ≤ 601024 ∧ gS m' ≤ 7293034) : W p l e room_1 s m #[Value.ref b] below meth c s.heap [] 0 0 (lw_Z below #[Value.ref b] s) (entryFrame m ([Value.ref b] : List Value).toArray 8) := by
  obtain ⟨n, m', hr, hH, hS⟩ := hrun
  obtain ⟨hx, hb, hret, hml, hown, hts0, hX, hbl, hlocks, hgv⟩ := C0
  have hl : l.stackTraces = false := by
    unfold Launch.stackTraces
    rw [hflags]
    rfl
  have hts : ∀ w ∈ gtbl, w.before #[Value.ref b] s = true := fun w hw => hts0 w (List.mem_filter.mp hw).1
  have htt : ∀ w ∈ tables_1, w.before #[Value.ref b] s = true := fun w hw => hts0 w (List.mem_append_right _ hw)
  have hfl : ∀ w ∈ eNarrow, w.before #[Value.ref b] s = true := flat_of_before _ hgv
  obtain ⟨n1, n2, n3, n4, n5, n6, n7, n8, n9, n10, n11⟩ := tNest
  obtain ⟨r1, r2, r3, r4, r5, r6, r7, r8⟩ := tNar
  have hcls : ∀ ci : Nat, ∃ q : ClassId × (Nat → Nat), ∀ r : vw_C, eCl[ci]? = some r → u_Kn s r.1 r.2.1 r.2.2 q.1 q.2 := fun (ci : Nat) => by
    cases h : eCl[ci]? with
    | none => exact ⟨(0, fun _ => 0), fun r hr => by cases hr⟩
    | some r =>
      have hlt : ci < 11 := (List.getElem?_eq_some_iff.mp h).1
      obtain ⟨q, q1, q2, q3, q4⟩ := tCl ci hlt
      cases h.symm.trans q1
      have hi : (Cond.instantiable r.1 r.2.2).before #[Value.ref b] s = true := by rw [q2, q3]; exact hts _ (tInsta ci hlt)
      obtain ⟨cC, iS, hk⟩ := u_known hts (tWs r q4) hi
      exact ⟨(cC, iS), fun r' hr' => by cases hr'; exact hk⟩
  have hA : ∀ a : Nat, a < s.heap.size → ¬ s.heap.size ≤ a := fun a h => Nat.not_le.mpr h
  obtain ⟨t2, e2, T2⟩ := va_Tof (N := 14) (f := fun j => .long (eTK j)) (A := fun q => s.heap.size ≤ q) (by decide) (hfl _ r1) (va_eqt (hfl _ r3)) (fun j hj => va_eqtl (hfl _ (r7 j (List.mem_range.mpr hj)))) hA
  obtain ⟨t1, e1, T1⟩ := va_Tof (N := 6) (f := fun j => .long (eFS j)) (A := fun q => s.heap.size ≤ q) (by decide) (hfl _ r2) (va_eqt (hfl _ r4)) (fun j hj => va_eqtl (hfl _ (r8 j (List.mem_range.mpr hj)))) hA
  have hLC : ∃ cc, s.vm.findClass "LiarsCock" = some cc := by
    obtain ⟨q, q1, q2, -, -⟩ := tCl 9 (by decide)
    obtain ⟨x, hx9⟩ := hcls 9
    have := (hx9 q q1).2.1
    rw [q2] at this
    exact ⟨_, this⟩
  obtain ⟨cLC, hcLC⟩ := hLC
  obtain ⟨G, hG⟩ : ∃ G : eG, G = ((fun ci => (Classical.choose (hcls ci)).1, fun ci => (Classical.choose (hcls ci)).2), s.heap.size, s.heap, t1, t2) := ⟨_, rfl⟩
  have hKn : Kn G s := by
    subst hG
    refine ⟨fun ci q hq => Classical.choose_spec (hcls ci) q hq, fun t ht => va_Nw.of rfl (htt _ (n1 t ht)), fun t ht => va_Nw.of rfl (htt _ (n2 t ht)), va_Zof (htt _ n5) (hts _ (tIn 8 (by decide))) e2 hA, va_Zof (htt _ n6) (hts _ (tIn 9 (by decide))) e1 hA, htt _ tOver, vx_Zqof (htt _ n7) (htt _ n9) (hfl _ r5) hA, vx_Zqof (htt _ n8) (htt _ n9) (hfl _ r6) hA, ?_, ?_, fun x hx => va_Nw.of rfl (htt _ (n3 x hx)), fun q hq => va_Nw.of rfl (htt _ (n4 q hq))⟩
    · obtain ⟨k, cf, i, a', -, -, -, -, -, hev⟩ := Cond.stringRef_spec hcLC (htt _ n10)
      exact ⟨a', vk_R.of (htt _ n10) hev⟩
    · obtain ⟨k, cf, i, a', -, -, -, -, -, hev⟩ := Cond.stringRef_spec hcLC (htt _ n11)
      exact ⟨a', vk_R.of (htt _ n11) hev⟩
  obtain ⟨k0, k1, k2, k3, k4⟩ := kd_0
  obtain ⟨m1, m2, m3, m4, m5⟩ := mLaw
  have F : FR G p s m #[Value.ref b] meth c eLaw := ⟨hx, by rw [m1]; exact hb, by rw [m2]; exact hml, by rw [m3]; exact hret, hlocks, by rw [m4]; exact hown, hts, hKn, fun z => by rw [m5] at z; cases z⟩
  obtain ⟨ad, had⟩ : ∃ ad : Nat → Nat, ad = fun a => if a = 0 then b else if a = 1 then t1 else t2 := ⟨_, rfl⟩
  have a0 : ad 0 = b := by rw [had]; rfl
  have a1 : ad 1 = t1 := by rw [had]; rfl
  have a2 : ad 2 = t2 := by rw [had]; rfl
  have hHp : Hp G s (em0 L xs) ad s.heap := by
    subst hG
    refine ⟨fun a ha => ?_, fun a b h3 ha => ?_, fun a h3 ha => ?_, Nat.le_refl _, Nat.le_refl _, fun q _ => rfl, fun a j ha => ?_, fun a j b hb => (by cases hb), Nat.le_refl _, a1, a2⟩
    · have ha : a < 3 := ha
      match a, ha with
      | 0, _ =>
        obtain ⟨scr, x1, x2, x3, x4, x5⟩ := hX
        have en : aln (em0 L xs) 0 = L := rfl
        refine Or.inr ⟨by omega, by omega, scr, by rw [a0]; exact x1, by rw [k0]; exact x2, x3, by rw [en, x4]; exact Nat.le_refl _, by rw [en, x4], fun j hj => ?_, fun z => by omega⟩
        rw [en] at hj
        rw [x5 j hj, k0]
        show _ = some (Value.int (if 0 = 0 ∧ j < L then xs j else 0))
        rw [if_pos ⟨rfl, hj⟩]
      | 1, _ => exact eArr0 k1 (by decide) k3 (by rw [a1]; exact T1) fun j _ => rfl
      | 2, _ => exact eArr0 k2 (by decide) k4 (by rw [a2]; exact T2) fun j _ => rfl
    · have ha : a < 3 := ha
      omega
    · have ha : a < 3 := ha
      omega
    · have ha : 3 ≤ a := ha
      refine ⟨?_, ?_, rfl⟩
      · exact if_neg fun z => by omega
      · show (if a = 1 then eFS j else if a = 2 then eTK j else 0) = 0
        rw [if_neg (by omega), if_neg (by omega)]
  have hl1 := lv_entry ([Value.ref b]) (n := 8) (Nat.le_of_ble_eq_true rfl)
  have hla : ([Value.ref 0] : List Value).map (mv ad) = [Value.ref b] := by show [Value.ref (ad 0)] = _; rw [a0]
  rw [← hla] at hl1
  obtain ⟨hLR, hlen⟩ := eIni_LR hl1 (show (eArg [Value.ref 0]).length ≤ 8 by decide)
  rw [hla] at hLR
  rw [lg_entry_eq]
  have oo : eO G s eLaw (em0 L xs) ad (eIni 8 [.ref 0]) [] s.heap [] _ := ⟨hHp, hLR, by rw [m2]; exact hlen, fun q hq => (by cases hq), eIni_rv (fun v hv => by rw [List.mem_singleton.mp hv]; show 0 < 3; decide), fun v hv => (by cases hv)⟩
  have := RS_all l hl G n 2000 eLaw 0 _ [] _ _ m' hr p e room_1 s m #[Value.ref b] below meth c (lw_Z below #[Value.ref b] s) 0 0 ad s.heap [] _ F (fun z => absurd z (by decide)) (by decide) (by decide) (Nat.zero_le _) (Nat.zero_le _) (by rw [Nat.sub_zero]; exact hH) (by rw [Nat.sub_zero]; exact hS) oo ?_ (fun m1 pc' k len ls' stf la' ad' H' locs' hag hv' => by cases hv')
  · exact this
  · intro v pc' i len ls' stf la' ad' H' locs' hag hv hd hlen hfin o'
    cases hv
    have hq : i = .ireturn ∧ stf = [.int 1] := by
      unfold eFin at hfin
      split at hfin
      · split at hfin
        · split at hfin
          · cases hfin; exact ⟨rfl, rfl⟩
          · cases hfin
        · cases hfin
      · split at hfin <;> cases hfin
      · split at hfin <;> cases hfin
      · cases hfin
    obtain ⟨rfl, rfl⟩ := hq
    obtain rfl : len = 1 := eq_of_beq hlen
    rw [m1] at hd
    have hz := lw_ret (p := p) (l := l) (e := e) (s := s) (m := m) (below := below) (meth := meth) (c := c) (b := b) hx hb hret hlocks (pc := pc') (H := H') (ls := la') hd
    refine W.widen (k := 601024) (n := 7293034) (by rw [Nat.sub_zero]; exact hH) (by rw [Nat.sub_zero]; exact hS) ?_
    have hsz : G.2.1 = s.heap.size := by rw [hG]
    exact W.forget (locs := []) (L := locs') (fun q hq => by rw [← hsz]; exact o'.2.2.2.1 q hq) hz
