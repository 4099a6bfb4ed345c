/-! ===== a run of the interpreter is a run of the machine ===== -/
theorem Kn.moved {G : eG} {s U : State} (hW : s.WarmedH U.vm) (h : Kn G s) : Kn G U := by
  obtain ⟨h1, h2, h3, h4, h5, h6, h7, h8, ⟨a, h9⟩, ⟨b, h10⟩, h11, h12⟩ := h
  exact ⟨fun ci q hq => u_Kn_moved hW.alike (h1 ci q hq), fun t ht => va_Nw.warmM hW (h2 t ht), fun t ht => va_Nw.warmF hW (h3 t ht), h4.moved hW.alike, h5.moved hW.alike, h6.moved hW.alike, h7.moved hW.alike, h8.moved hW.alike, ⟨a, h9.warm hW⟩, ⟨b, h10.warm hW⟩, fun x hx => va_Nw.warmD hW (h11 x hx), fun q hq => va_Nw.warmC hW (h12 q hq)⟩
theorem Kn.same {G : eG} {s U : State} (hv : s.vm = U.vm) (h : Kn G s) : Kn G U := Kn.moved (by rw [← hv]; exact State.WarmedH.refl s) h
theorem Hp.same {G : eG} {s U : State} {m : eM} {ad : Nat → Nat} {H : Heap} (hv : s.vm = U.vm) (hz : U.heap.size ≤ H.size) (h : Hp G s m ad H) : Hp G U m ad H := h.moved (by rw [hv]; exact Vm.Alike.refl _) hz
def eWs (y : Nat) : List Cond := Cond.code (mN y) (mB y) (mL y) (mR y) :: gtbl
def eRm (d mc ms : Nat) : Room := { frames := d, cells := mc, slots := ms, locals := 40 * d }
def ePc (G : eG) (as : List Value) (m : eM) (ad : Nat → Nat) : Array Value → State → Prop := va_Pc (as.map (mv ad)) (fun U => Kn G U ∧ Hp G U m ad U.heap)
def eQc (G : eG) (v : Option Value) (m : eM) (ad : Nat → Nat) (m' : eM) : Array Value → State → Outcome → State → Prop := fun _ st o t => o = .returned v ∧ st.heap.size ≤ t.heap.size ∧ ∃ ad' : Nat → Nat, (∀ a, a < gX m → ad' a = ad a) ∧ Hp G t m' ad' t.heap
/-- from a point of a method on: where its run ends, the machine comes to where 'Z' is owed -/
def RS (l : Launch) (G : eG) (n : Nat) : Prop := ∀ (d μ pc : Nat) (ls st : List Value) (m : eM) (o : Option (Option Value)) (m' : eM), run n d μ pc ls st m = some (o, m') →
  ∀ (p : Program) (e : Env) (R : Room) (s : State) (mid : MethodId) (args : Array Value) (below : List Frame) (meth : Method) (c : Code) (Z : State → Prop) (h0 s0 : Nat) (ad : Nat → Nat) (H : Heap) (locs : List Loc) (la : Array Slot),
  FR G p s mid args meth c μ → (μ = eSec → c.exceptionTable.toList = tableOf [(0, 15, 18, 13)]) → d ≤ R.frames → 40 * d ≤ R.locals → h0 ≤ gH m → s0 ≤ gS m → gH m' - h0 ≤ R.cells → gS m' - s0 ≤ R.slots → eO G s μ m ad ls st H locs la →
  (∀ (v : Option Value) (pc' : Nat) (i : Instr) (len : Nat) (ls' stf : List Value) (la' : Array Slot) (ad' : Nat → Nat) (H' : Heap) (locs' : List Loc), (∀ a, a < gX m → ad' a = ad a) → o = some v → decode (mB μ) pc' = .ok (i, len) → lenOK i len = true → eFin (mR μ) i stf = some v → eO G s μ m' ad' ls' stf H' locs' la' → eW p l e R s mid args below meth c Z h0 s0 m' ad' H' locs' la' pc' stf) →
  (∀ (m1 : eM) (pc' k len : Nat) (ls' stf : List Value) (la' : Array Slot) (ad' : Nat → Nat) (H' : Heap) (locs' : List Loc), (∀ a, a < gX m → ad' a = ad a) → o = none → m' = sX m1 6 → decode (mB μ) pc' = .ok (.new k, len) → len = 3 → eThrow μ pc' (.new k) = true ∧ eCat stf ≤ 8 ∧ 10 ≤ d → eO G s μ m1 ad' ls' stf H' locs' la' → h0 ≤ gH m1 → s0 ≤ gS m1 → eW p l e R s mid args below meth c Z h0 s0 m1 ad' H' locs' la' pc' stf) →
  eW p l e R s mid args below meth c Z h0 s0 m ad H locs la pc st
theorem eIni_LR {f : Nat → Nat} {n : Nat} {as : List Value} {la : Array Slot} (h : lv_has la n (lv_args 0 (as.map (mv f)))) (hlen : (eArg as).length ≤ n) : LR f (eIni n as) la ∧ (eIni n as).length = n := by
  have hl : (eIni n as).length = n := by unfold eIni; simp; omega
  refine ⟨LR.of (hl.symm ▸ h) fun i v h1 h2 => ?_, hl⟩
  unfold eIni at h1
  by_cases hi : i < (eArg as).length
  · rw [List.getElem?_append_left hi] at h1
    have := eArg_mem f as 0 i v h1 h2
    rwa [Nat.zero_add] at this
  · rw [List.getElem?_append_right (by omega)] at h1
    have := List.mem_of_getElem? h1
    exact absurd (List.eq_of_mem_replicate this) h2
theorem eArg_rv {m : eM} : ∀ (as : List Value), (∀ v ∈ as, eRv m v) → ∀ v ∈ eArg as, eRv m v
  | [], _, v, h => by cases h
  | w :: as, ha, v, h => by
    have ih := eArg_rv as fun v hv => ha v (List.mem_cons_of_mem _ hv)
    unfold eArg at h
    split at h
    · rcases List.mem_cons.mp h with rfl | h
      · exact ha _ List.mem_cons_self
      · rcases List.mem_cons.mp h with rfl | h
        · trivial
        · exact ih v h
    · rcases List.mem_cons.mp h with rfl | h
      · exact ha _ List.mem_cons_self
      · exact ih v h
theorem eIni_rv {m : eM} {n : Nat} {as : List Value} (h : ∀ v ∈ as, eRv m v) : ∀ v ∈ eIni n as, eRv m v := by
  intro v hv
  unfold eIni at hv
  rcases List.mem_append.mp hv with hv | hv
  · exact eArg_rv as h v hv
  · rw [List.eq_of_mem_replicate hv]; trivial
theorem tMs {y : Nat} (h : y < eNC + 1) : (mN y).cls = cN (mC y) ∧ (mN y).cls ≠ "java/lang/invoke/MethodHandle" ∧ (mN y).cls ≠ "java/lang/invoke/VarHandle" ∧ (parseMethodDescriptor (mN y).desc).map (fun d => d.parameters.length) = some (if mS y then mP y else mP y - 1) ∧ mL y ≤ 13 ∧ plainName (mN y).cls = true ∧ mC y < 15 ∧ (mS y = true ∨ 1 ≤ mP y) ∧ (mIni y = true → mR y = none) := by
  have h1 := tM y h
  simp only [kM, Bool.and_eq_true, decide_eq_true_eq, Bool.or_eq_true, Bool.not_eq_true'] at h1
  obtain ⟨⟨⟨⟨⟨⟨⟨⟨h1, h2⟩, h3⟩, h4⟩, h5⟩, h6⟩, h7⟩, h8⟩, h9⟩ := h1
  exact ⟨h1, h2, h3, h4, h5, h6, h7, h8, fun z => h9.resolve_left (by rw [z]; decide)⟩
/-- an answer names no cell -/
theorem eFin_nr {r : Option FieldType} {i : Instr} {st : List Value} {v : Option Value} (h : eFin r i st = some v) : ∀ w, v = some w → eNr0 w := by
  unfold eFin at h
  split at h
  · split at h
    · split at h
      · cases h; intro w hw; cases hw; exact eNr_i _
      · cases h
    · cases h
  · split at h
    · cases h; intro w hw; cases hw; exact eNr_l _
    · cases h
  · split at h
    · cases h; intro w hw; cases hw
    · cases h
  · cases h
/-- the ends of a method that returns -/
theorem eEnd {G : eG} {p : Program} {l : Launch} {e : Env} {R : Room} {s : State} {mid : MethodId} {args : Array Value} {below : List Frame} {meth : Method} {c : Code} {μ h0 s0 : Nat} (F : FR G p s mid args meth c μ) {m m' : eM} {v : Option Value} {pc' : Nat} {i : Instr} {len : Nat} {ls' stf : List Value} {la' : Array Slot} {ad ad' : Nat → Nat} {H' : Heap} {locs' : List Loc} (hag : ∀ a, a < gX m → ad' a = ad a) (hd : decode (mB μ) pc' = .ok (i, len)) (hlen : lenOK i len = true) (hfin : eFin (mR μ) i stf = some v) (o : eO G s μ m' ad' ls' stf H' locs' la') :
    eW p l e R s mid args below meth c (MQ below (eQc G v m ad m') args s (gH m' - h0) (gS m' - s0) (fun q => G.2.1 ≤ q)) h0 s0 m' ad' H' locs' la' pc' stf := by
  have hq : ∀ (w : Option Value), ∀ t : State, t.heap = H' → s.WarmedH t.vm → eQc G w m ad m' args s (.returned w) t := fun w t ht hW => ⟨rfl, by rw [ht]; exact o.1.2.2.2.1, ad', hag, by rw [ht]; exact o.1.moved hW.alike (by rw [ht]; exact Nat.le_refl _)⟩
  unfold eFin at hfin
  split at hfin
  · rename_i x
    obtain rfl : len = 1 := eq_of_beq hlen
    split at hfin
    · rename_i ty hty
      split at hfin
      · rename_i hn
        cases hfin
        exact W.zret F.1 F.2.1 (F.2.2.2.1.trans hty) hn.1 (hq (some (.int x))) o.2.2.2.1 hd F.2.2.2.2.1
      · cases hfin
    · cases hfin
  · rename_i x
    obtain rfl : len = 1 := eq_of_beq hlen
    split at hfin
    · rename_i hr
      cases hfin
      exact W.lret F.1 F.2.1 (F.2.2.2.1.trans hr) (hq (some (.long x))) o.2.2.2.1 hd F.2.2.2.2.1
    · cases hfin
  · obtain rfl : len = 1 := eq_of_beq hlen
    split at hfin
    · rename_i hr
      cases hfin
      exact W.vret F.1 F.2.1 (F.2.2.2.1.trans hr) (hq none) o.2.2.2.1 hd F.2.2.2.2.1
    · cases hfin
  · cases hfin
/-- the frame with which a method begins -/
theorem eEntry0 {G : eG} {y : Nat} {as : List Value} {m : eM} {ad : Nat → Nat} {ws : List Cond} {rm : Room} (hsub : ∀ w ∈ gtbl, w ∈ ws) (hy : y < eNC + 1) (hlen : (eArg as).length ≤ mL y) (hrv : ∀ v ∈ as, eRv m v) {p : Program} {l : Launch} {e : Env} {s : State} {mid : MethodId} {args : Array Value} {below : List Frame} {meth : Method} {c : Code} {s₁ : State}
    (B : BodyLoose p l (mN y) (headSpec ws rm) (mB y) (mL y) (mR y) e s mid args below meth c s₁) (hml : c.maxLocals = mL y) (hv : ePc G as m ad args s) :
    FR G p s mid args meth c y ∧ (∀ q : Nat, q < G.2.1 → s.heap[q]? = G.2.2.1[q]?) ∧ ∃ la, entryFrame mid args (mL y) = F0 mid 0 la [] ∧ eO G s y m ad (eIni (mL y) as) [] s.heap [] la := by
  obtain ⟨rfl, hK, hH⟩ := hv
  have hts := atoms_spec (ws := ws) B.pre
  have hT := tMs hy
  have hown := findClass_of_methodNamed B.named
  rw [hT.1] at hown
  refine ⟨⟨B.exec, B.bytes, hml, B.returns, B.notSynchronized, hown, fun w hw => hts w (hsub w hw), hK, fun z => (name_of_methodNamed B.named B.method).1.trans (eq_of_beq z)⟩, hH.2.2.2.2.2.1, _, lg_entry_eq _ _ _, ?_⟩
  have h1 := lv_entry (as.map (mv ad)) (n := mL y) (by rw [eArg_len]; exact hlen)
  obtain ⟨h2, h3⟩ := eIni_LR h1 hlen
  exact ⟨hH, h2, h3, fun q hq => (by cases hq), eIni_rv hrv, fun v hv => (by cases hv)⟩
theorem eMet {l : Launch} {G : eG} {n : Nat} (ih : RS l G n) {d y : Nat} {as : List Value} {m : eM} {ad : Nat → Nat} {v : Option Value} {m' : eM} (hy : y < eNC) (hr : run n d y 0 (eIni (mL y) as) [] m = some (some v, m')) (hlen : (eArg as).length ≤ mL y) (hrv : ∀ v ∈ as, eRv m v) :
    Met l (mN y) (eWs y) (eRm d (gH m' - gH m) (gS m' - gS m)) (ePc G as m ad) (eQc G v m ad m') (gH m' - gH m) (gS m' - gS m) (fun q => G.2.1 ≤ q) := by
  refine Met.ofW (cc := mB y) (maxL := mL y) (ret := mR y) (tMs (Nat.lt_succ_of_lt hy)).2.2.2.2.2.1 rfl ?_
  intro p e s mid args below meth c s₁ B hml hv
  obtain ⟨F, -, la, e1, o⟩ := eEntry0 (fun w hw => List.mem_cons_of_mem _ hw) (Nat.lt_succ_of_lt hy) hlen hrv B hml hv
  rw [e1]
  have := ih d y 0 _ [] m _ m' hr p e (headSpec (eWs y) (eRm d (gH m' - gH m) (gS m' - gS m))).room s mid args below meth c (MQ below (eQc G v m ad m') args s (gH m' - gH m) (gS m' - gS m) (fun q => G.2.1 ≤ q)) (gH m) (gS m) ad s.heap [] la F (fun z => absurd z (Nat.ne_of_lt hy)) (Nat.le_refl _) (Nat.le_refl _) (Nat.le_refl _) (Nat.le_refl _) (Nat.le_refl _) (Nat.le_refl _) o
    (fun v' pc' i len ls' stf la' ad' H' locs' hag hv' hd hlen hfin o' => by cases hv'; exact eEnd F hag hd hlen hfin o')
    (fun m1 pc' k len ls' stf la' ad' H' locs' hag hv' => by cases hv')
  simp only [eW, Nat.sub_self] at this
  exact this
theorem ePc_blind {G : eG} {as : List Value} {m : eM} {ad : Nat → Nat} : FrameBlind (ePc G as m ad) := fun a U g mk q => ⟨q.1, Kn.same rfl q.2.1, Hp.same rfl (Nat.le_refl _) q.2.2⟩
theorem eWs_good {y : Nat} (hy : y < eNC) : GoodIn gtbl (eWs y) := g_goodIn fun w hw => (List.mem_cons.mp hw).elim (fun e => e ▸ tCode y hy) (fun h => h)
theorem tInst' {y : Nat} (hy : y < eNC) (hs : mS y = false) : Cond.instanceMethod (mN y) ∈ gtbl := by
  refine tInst (mE y) (List.mem_filter.mpr ⟨?_, by show (!mS y) = true; rw [hs]; rfl⟩)
  have h1 : (eMs.take eNC)[y]? = some (mE y) := by
    have hl : y < eMs.length := Nat.lt_of_lt_of_le hy (by decide +kernel)
    rw [List.getElem?_take, if_pos hy]
    unfold mE
    rw [List.getD_eq_getElem?_getD, List.getElem?_eq_getElem hl]; rfl
  exact List.mem_of_getElem? h1
theorem tStat' {y : Nat} (hy : y < eNC) (hs : mS y = true) : Cond.static (mN y) ∈ gtbl := by
  refine tStat (mE y) (List.mem_filter.mpr ⟨?_, hs⟩)
  have h1 : (eMs.take eNC)[y]? = some (mE y) := by
    have hl : y < eMs.length := Nat.lt_of_lt_of_le hy (by decide +kernel)
    rw [List.getElem?_take, if_pos hy]
    unfold mE
    rw [List.getD_eq_getElem?_getD, List.getElem?_eq_getElem hl]; rfl
  exact List.mem_of_getElem? h1
theorem eCall_spec {cc y kind : Nat} {i : Instr} (h : eCall cc i = some (y, kind)) : ∃ k, ((i = .invokevirtual k ∧ kind = 0) ∨ (i = .invokespecial k ∧ kind = 1) ∨ (i = .invokestatic k ∧ kind = 2)) ∧ (mRes cc k = some y ∨ mRn cc k = some y) := by
  have key : ∀ k kd', ((mRes cc k).or (mRn cc k)).map (fun q => (q, kd')) = some (y, kind) → kind = kd' ∧ (mRes cc k = some y ∨ mRn cc k = some y) := fun k kd' h => by
    cases e : mRes cc k with
    | some z => rw [e] at h; simp at h; exact ⟨h.2.symm, Or.inl (by rw [h.1])⟩
    | none =>
      rw [e] at h
      simp at h
      obtain ⟨a, h1, rfl, h2⟩ := h
      exact ⟨h2.symm, Or.inr h1⟩
  unfold eCall at h
  split at h
  · rename_i k
    obtain ⟨a, b⟩ := key k 0 h
    exact ⟨k, Or.inl ⟨rfl, a⟩, b⟩
  · rename_i k
    obtain ⟨a, b⟩ := key k 1 h
    exact ⟨k, Or.inr (Or.inl ⟨rfl, a⟩), b⟩
  · rename_i k
    obtain ⟨a, b⟩ := key k 2 h
    exact ⟨k, Or.inr (Or.inr ⟨rfl, a⟩), b⟩
  · cases h
