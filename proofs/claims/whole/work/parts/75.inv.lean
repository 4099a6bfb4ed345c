/-! ===== the invariant, and mark ===== -/
/-- the reference's place k holds view v -/
def MkP (v : eV) (k : Nat) (m : eM) : Prop := (∀ i c q, kC22[i]? = some c → mpI c.1 c.2 = some q → gI m 256 (300 * k + i) = nI (v.1 q.1 q.2)) ∧ (∀ j, j < 18 → gL m 257 (100 * k + j) = lN (nam v j)) ∧ (∀ j, j < 30 → gL m 257 (100 * k + 18 + j) = soV v j) ∧ gL m 257 (100 * k + 48) = com v
/-- flags are 0 or 1, also where no saying is -/
def Vb (v : eV) : Prop := ∀ j, j < 30 → isq v j ≤ 1
/-- the reference's side: view, tape, marks -/
def MI (v : eV) (t : Nat) (tp : Nat → Nat) (V : Nat → Option eV) (m : eM) : Prop := Mp v m ∧ (gI m 208 1 = nI t ∧ ∀ i, i < t → gI m 209 i = nI (tp i)) ∧ ∀ k, k < 4 → gI m 255 k = bb (V k).isSome ∧ ∀ w, V k = some w → MkP w k m
/-- the class' side -/
def CI (v : eV) (p t : Nat) (tp : Nat → Nat) (V : Nat → Option eV) (m : eM) : Prop := (Cn v p m ∧ p + 11 < gX m) ∧ (gI m 4 1 = nI t ∧ ∀ i, i < t → gI m 5 i = nI (tp i)) ∧ ∀ k, k < 4 → gI m 45 k = bb (V k).isSome ∧ ∀ w, V k = some w → ∃ q, CsP w (68 + 35 * k) q m ∧ pOK q ∧ q + 11 < gX m
/-- both -/
def VI (v : eV) (t : Nat) (tp : Nat → Nat) (V : Nat → Option eV) : Prop := (Va v ∧ Vb v) ∧ (t ≤ 1000 ∧ ∀ i, i < t → tp i < 128) ∧ ∀ k w, V k = some w → Va w ∧ Vb w
theorem Fr.x {S : Nat → Nat → Bool} {m m' : eM} (h : Fr S m m') : gX m' = gX m := congrArg (fun x => x.2.1) h.2.2
/-- what a call of the reference may write -/
def sMd (a _ : Nat) : Bool := decide (208 ≤ a ∧ a ≤ 257 ∧ a ≠ 221)
theorem sMd_n {a j : Nat} (h : a < 208 ∨ 257 < a ∨ a = 221) : sMd a j = false := decide_eq_false (by omega)
theorem Fr.md {m m' : eM} (f : Fr sMu m m') : Fr sMd m m' := f.up fun a j h => sMu_n (by
  have := of_decide_eq_false h
  omega)
/-- what a call of the class leaves -/
def CF (m m' : eM) : Prop := ∀ a j, a = 0 ∨ 208 ≤ a → gI m' a j = gI m a j ∧ gL m' a j = gL m a j
theorem CF.tr {m m' m'' : eM} (h : CF m m') (h2 : CF m' m'') : CF m m'' := fun a j z => ⟨(h2 a j z).1.trans (h a j z).1, (h2 a j z).2.trans (h a j z).2⟩
theorem Fr.cf {m m' : eM} (f : Fr sCu m m') : CF m m' := fun a j h => ⟨f.1 a j (decide_eq_false (by omega)), f.2.1 a j (decide_eq_false (by omega))⟩
theorem CI.md {v : eV} {p t : Nat} {tp : Nat → Nat} {V : Nat → Option eV} {m m' : eM} (h : CI v p t tp V m) (f : Fr sMd m m') : CI v p t tp V m' := by
  obtain ⟨⟨⟨c1, c2, c3, c4⟩, hx⟩, ⟨t1, t2⟩, hV⟩ := h
  have pO : ∀ {q}, pOK q → ∀ a j, q ≤ a → a ≤ q + 11 → sMd a j = false := fun hq a j h1 h2 => sMd_n (by unfold pOK at hq; omega)
  refine ⟨⟨⟨c1.fr f (fun _ => rfl) (fun a j _ _ => sMd_n (by omega)) (pO c4), c2.fr f (fun _ => rfl) (fun _ => rfl), f.sk c3, c4⟩, by rw [f.x]; exact hx⟩, ⟨(f.1 _ _ rfl).trans t1, fun i hi => (f.1 _ _ rfl).trans (t2 i hi)⟩, fun k hk => ⟨(f.1 _ _ rfl).trans (hV k hk).1, fun w hw => ?_⟩⟩
  obtain ⟨q, q1, q2, q3⟩ := (hV k hk).2 w hw
  exact ⟨q, q1.fr f (fun _ => sMd_n (by omega)) (fun a j _ _ => sMd_n (by omega)) (pO q2), q2, by rw [f.x]; exact q3⟩
theorem CI.cu {v v' : eV} {p t : Nat} {tp : Nat → Nat} {V : Nat → Option eV} {m m' : eM} (h : CI v p t tp V m) (f : Fr sCu m m') (hc : Cn v' p m') : CI v' p t tp V m' := by
  obtain ⟨⟨-, hx⟩, ⟨t1, t2⟩, hV⟩ := h
  refine ⟨⟨hc, by rw [f.x]; exact hx⟩, ⟨(f.1 _ _ rfl).trans t1, fun i hi => (f.1 _ _ rfl).trans (t2 i hi)⟩, fun k hk => ⟨(f.1 _ _ rfl).trans (hV k hk).1, fun w hw => ?_⟩⟩
  obtain ⟨q, q1, q2, q3⟩ := (hV k hk).2 w hw
  exact ⟨q, q1.fr f (fun _ => sCu_n (by omega)) (fun a j _ _ => sCu_n (by omega)) (fun a j h1 h2 => sCu_n (by unfold pOK at q2; omega)), q2, by rw [f.x]; exact q3⟩
theorem MkP.fr {v : eV} {k : Nat} {m m' : eM} (h : MkP v k m) (h1 : ∀ j, j < 185 → gI m' 256 (300 * k + j) = gI m 256 (300 * k + j)) (h2 : ∀ j, j < 49 → gL m' 257 (100 * k + j) = gL m 257 (100 * k + j)) : MkP v k m' := by
  refine ⟨fun i c q hc hq => ?_, fun j hj => (h2 j (by omega)).trans (h.2.1 j hj), fun j hj => ?_, (h2 48 (by decide)).trans h.2.2.2⟩
  · have hi : i < 185 := by
      have := (List.getElem?_eq_some_iff.mp hc).1
      rw [kC22_l] at this
      exact this
    exact (h1 i hi).trans (h.1 i c q hc hq)
  · have e := h2 (18 + j) (by omega)
    rw [← Nat.add_assoc] at e
    exact e.trans (h.2.2.1 j hj)
theorem MI.mu {v v' : eV} {t : Nat} {tp : Nat → Nat} {V : Nat → Option eV} {m m' : eM} (h : MI v t tp V m) (f : Fr sMu m m') (hm : Mp v' m') : MI v' t tp V m' := by
  obtain ⟨-, ⟨t1, t2⟩, hV⟩ := h
  exact ⟨hm, ⟨(f.1 _ _ rfl).trans t1, fun i hi => (f.1 _ _ rfl).trans (t2 i hi)⟩, fun k hk => ⟨(f.1 _ _ rfl).trans (hV k hk).1, fun w hw => ((hV k hk).2 w hw).fr (fun j _ => f.1 _ _ rfl) (fun j _ => f.2.1 _ _ rfl)⟩⟩
theorem mpI_a {a j : Nat} {q : Nat × Nat} (h : mpI a j = some q) : 208 ≤ a ∧ a ≤ 257 := by
  have := mpI_p h
  have := of_decide_eq_true this
  omega
theorem Mp.cf {v : eV} {m m' : eM} (h : Mp v m) (f : CF m m') (hs : Sk m') : Mp v m' := ⟨hs, fun a j q z => ((f a j (Or.inr (by have := mpI_a z; omega))).1).trans (h.2.1 a j q z), fun a j q z => ((f a j (Or.inr (by have := mpL_a z; omega))).2).trans (h.2.2.1 a j q z), fun j z => ((f 211 j (Or.inr (by decide))).2).trans (h.2.2.2 j z)⟩
theorem MI.cf {v : eV} {t : Nat} {tp : Nat → Nat} {V : Nat → Option eV} {m m' : eM} (h : MI v t tp V m) (f : CF m m') (hs : Sk m') : MI v t tp V m' := by
  obtain ⟨h1, ⟨t1, t2⟩, hV⟩ := h
  exact ⟨h1.cf f hs, ⟨((f 208 1 (Or.inr (by decide))).1).trans t1, fun i hi => ((f 209 i (Or.inr (by decide))).1).trans (t2 i hi)⟩, fun k hk => ⟨((f 255 k (Or.inr (by decide))).1).trans (hV k hk).1, fun w hw => ((hV k hk).2 w hw).fr (fun j _ => (f 256 _ (Or.inr (by decide))).1) (fun j _ => (f 257 _ (Or.inr (by decide))).2)⟩⟩
/-! mark: what is so behind it -/
def mk_v (v : eV) (V : Nat → Option eV) (x : Int32) (B : Bool) : eV := if (inN x 4 && B) = true then (V x.toNatClampNeg).getD v else v
def mk_V (v : eV) (V : Nat → Option eV) (x : Int32) (B : Bool) : Nat → Option eV := if (inN x 4 && !B) = true then (fun j => if j = x.toNatClampNeg then some v else V j) else V
def sp_mark (V : Nat → Option eV) (x : Int32) (B : Bool) : Int32 := if inN x 4 = true then (if B = true then bb (V x.toNatClampNeg).isSome else 1) else 0
theorem mk_no {v : eV} {V : Nat → Option eV} {x : Int32} {B : Bool} (h : ¬ inN x 4 = true) : mk_v v V x B = v ∧ mk_V v V x B = V ∧ sp_mark V x B = 0 := by
  have h := Bool.eq_false_iff.mpr h
  unfold mk_v mk_V sp_mark
  rw [h]
  exact ⟨rfl, rfl, rfl⟩
theorem mk_sv {v : eV} {V : Nat → Option eV} {k : Nat} (hk : k < 4) : mk_v v V (nI k) false = v ∧ mk_V v V (nI k) false = (fun j => if j = k then some v else V j) ∧ sp_mark V (nI k) false = 1 := by
  unfold mk_v mk_V sp_mark
  rw [inN_n (by omega) (by decide), decide_eq_true hk, n_cl (by omega)]
  exact ⟨rfl, rfl, rfl⟩
theorem mk_gt {v : eV} {V : Nat → Option eV} {k : Nat} (hk : k < 4) : mk_v v V (nI k) true = (V k).getD v ∧ mk_V v V (nI k) true = V ∧ sp_mark V (nI k) true = bb (V k).isSome := by
  unfold mk_v mk_V sp_mark
  rw [inN_n (by omega) (by decide), decide_eq_true hk, n_cl (by omega)]
  exact ⟨rfl, rfl, rfl⟩
theorem VI.mk {v : eV} {t : Nat} {tp : Nat → Nat} {V : Nat → Option eV} (h : VI v t tp V) (x : Int32) (B : Bool) : VI (mk_v v V x B) t tp (mk_V v V x B) := by
  by_cases z : inN x 4 = true
  · obtain ⟨k, hk, rfl⟩ := inN_of (by decide) z
    cases B with
    | false =>
      obtain ⟨e1, e2, -⟩ := mk_sv (v := v) (V := V) hk
      rw [e1, e2]
      refine ⟨h.1, h.2.1, fun j w hw => ?_⟩
      have hw : (if j = k then some v else V j) = some w := hw
      by_cases y : j = k
      · rw [if_pos y] at hw
        cases hw
        exact h.1
      · rw [if_neg y] at hw
        exact h.2.2 j w hw
    | true =>
      obtain ⟨e1, e2, -⟩ := mk_gt (v := v) (V := V) hk
      rw [e1, e2]
      refine ⟨?_, h.2⟩
      cases y : V k with
      | none => exact h.1
      | some w => exact h.2.2 k w y
  · obtain ⟨e1, e2, -⟩ := mk_no (v := v) (V := V) (B := B) z
    rw [e1, e2]; exact h
theorem le1 {n : Nat} (h : n ≤ 1) : nI n = 0 ∨ nI n = 1 := by
  have : n = 0 ∨ n = 1 := by omega
  rcases this with e | e
  · rw [e]; exact Or.inl rfl
  · rw [e]; exact Or.inr rfl
theorem kq0_f {k : Nat} (m : eM) : Fr (fun a j => a == 257 && (decide (100 * k ≤ j) && decide (j < 100 * k + 49))) m (kq false 219 1 0 (100 * k + 48) (kq false 239 30 0 (100 * k + 18) (kq false 211 18 0 (100 * k) m))) ∧ (∀ x, x < 18 → gL (kq false 219 1 0 (100 * k + 48) (kq false 239 30 0 (100 * k + 18) (kq false 211 18 0 (100 * k) m))) 257 (100 * k + x) = gL m 211 x) ∧ (∀ x, x < 30 → gL (kq false 219 1 0 (100 * k + 48) (kq false 239 30 0 (100 * k + 18) (kq false 211 18 0 (100 * k) m))) 257 (100 * k + 18 + x) = gL m 239 x) ∧ gL (kq false 219 1 0 (100 * k + 48) (kq false 239 30 0 (100 * k + 18) (kq false 211 18 0 (100 * k) m))) 257 (100 * k + 48) = gL m 219 0 := by
  obtain ⟨f1, h1⟩ := kq_0 (a := 211) (by decide) 18 0 (100 * k) m
  obtain ⟨f2, h2⟩ := kq_0 (a := 239) (by decide) 30 0 (100 * k + 18) (kq false 211 18 0 (100 * k) m)
  obtain ⟨f3, h3⟩ := kq_0 (a := 219) (by decide) 1 0 (100 * k + 48) (kq false 239 30 0 (100 * k + 18) (kq false 211 18 0 (100 * k) m))
  have w : ∀ {b n : Nat}, 100 * k ≤ b → b + n ≤ 100 * k + 49 → ∀ a j, (a == 257 && (decide (100 * k ≤ j) && decide (j < 100 * k + 49))) = false → (a == 257 && (decide (b ≤ j) && decide (j < b + n))) = false := fun {b n} q1 q2 a j q => by
    by_cases y : a = 257
    · subst y
      simp at q ⊢
      omega
    · simp [y]
  refine ⟨((f1.up (w (by omega) (by omega))).tr (f2.up (w (by omega) (by omega)))).tr (f3.up (w (by omega) (by omega))), fun x hx => ?_, fun x hx => ?_, ?_⟩
  · rw [f3.2.1 257 (100 * k + x) (by simp; omega), f2.2.1 257 (100 * k + x) (by simp; omega), h1 x hx, Nat.zero_add]
  · rw [f3.2.1 257 (100 * k + 18 + x) (by simp; omega), h2 x hx, Nat.zero_add, f1.2.1 239 x (by simp)]
  · have := h3 0 (by decide)
    rw [Nat.add_zero, Nat.add_zero] at this
    rw [this, f2.2.1 219 0 (by simp), f1.2.1 219 0 (by simp)]
theorem kq1_f {k : Nat} (m : eM) : Fr (fun a j => (a == 211 && decide (j < 18)) || (a == 239 && decide (j < 30)) || (a == 219 && j == 0)) m (kq true 219 1 0 (100 * k + 48) (kq true 239 30 0 (100 * k + 18) (kq true 211 18 0 (100 * k) m))) ∧ (∀ x, x < 18 → gL (kq true 219 1 0 (100 * k + 48) (kq true 239 30 0 (100 * k + 18) (kq true 211 18 0 (100 * k) m))) 211 x = gL m 257 (100 * k + x)) ∧ (∀ x, x < 30 → gL (kq true 219 1 0 (100 * k + 48) (kq true 239 30 0 (100 * k + 18) (kq true 211 18 0 (100 * k) m))) 239 x = gL m 257 (100 * k + 18 + x)) ∧ gL (kq true 219 1 0 (100 * k + 48) (kq true 239 30 0 (100 * k + 18) (kq true 211 18 0 (100 * k) m))) 219 0 = gL m 257 (100 * k + 48) := by
  obtain ⟨f1, h1⟩ := kq_1 (a := 211) (by decide) 18 0 (100 * k) m
  obtain ⟨f2, h2⟩ := kq_1 (a := 239) (by decide) 30 0 (100 * k + 18) (kq true 211 18 0 (100 * k) m)
  obtain ⟨f3, h3⟩ := kq_1 (a := 219) (by decide) 1 0 (100 * k + 48) (kq true 239 30 0 (100 * k + 18) (kq true 211 18 0 (100 * k) m))
  refine ⟨((f1.up fun a j q => ?_).tr (f2.up fun a j q => ?_)).tr (f3.up fun a j q => ?_), fun x hx => ?_, fun x hx => ?_, ?_⟩
  · simp at q ⊢; omega
  · simp at q ⊢; omega
  · simp at q ⊢; omega
  · have := h1 x hx
    rw [Nat.zero_add] at this
    rw [f3.2.1 211 x (by simp), f2.2.1 211 x (by simp), this]
  · have := h2 x hx
    rw [Nat.zero_add] at this
    rw [f3.2.1 239 x (by simp), this, f1.2.1 257 _ (by simp)]
  · have := h3 0 (by decide)
    rw [Nat.add_zero, Nat.add_zero] at this
    rw [this, f2.2.1 257 _ (by simp), f1.2.1 257 _ (by simp)]
