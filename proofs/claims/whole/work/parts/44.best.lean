/-! ===== NEXT, FOG ===== -/
/-- the bearing in a world -/
def bW (v : eV) (c mn w : Nat) : Nat := beN v (pt0 v c mn w)
def larV (v : eV) (c mn : Nat) (x : Int64) : Nat := mxB x (bW v c mn) 64
def kinV (v : eV) (c mn : Nat) (x : Int64) : Nat := kiB x (bW v c mn) 64
/-- what is looked for: the least of g among the minutes that count -/
def bmn (g : Nat → Nat) (cand : Nat → Bool) (a : Nat) : Nat → Nat × Nat
  | 0 => (a, g a)
  | k + 1 => if (cand (a + (k + 1)) && decide (g (a + (k + 1)) < (bmn g cand a k).2)) = true then (a + (k + 1), g (a + (k + 1))) else bmn g cand a k
theorem bmn_s (g : Nat → Nat) (cand : Nat → Bool) (a k : Nat) : bmn g cand a (k + 1) = if (cand (a + (k + 1)) && decide (g (a + (k + 1)) < (bmn g cand a k).2)) = true then (a + (k + 1), g (a + (k + 1))) else bmn g cand a k := rfl
/-- what tells the best one -/
def isB (g : Nat → Nat) (C : Nat → Prop) (q : Nat × Nat) : Prop := C q.1 ∧ q.2 = g q.1 ∧ ∀ c, C c → q.2 ≤ g c ∧ (c < q.1 → q.2 < g c)
theorem isB_u {g : Nat → Nat} {C : Nat → Prop} {q q' : Nat × Nat} (h : isB g C q) (h' : isB g C q') : q = q' := by
  obtain ⟨a1, a2, a3⟩ := h
  obtain ⟨b1, b2, b3⟩ := h'
  have e1 := a3 _ b1
  have e2 := b3 _ a1
  have : q.1 = q'.1 := by
    rcases Nat.lt_trichotomy q.1 q'.1 with z | z | z
    · have := e2.2 z; omega
    · exact z
    · have := e1.2 z; omega
  exact Prod.ext this (by omega)
theorem bmn_B (g : Nat → Nat) (cand : Nat → Bool) (a : Nat) : ∀ k, isB g (fun c => c = a ∨ (a < c ∧ c ≤ a + k ∧ cand c = true)) (bmn g cand a k)
  | 0 => ⟨Or.inl rfl, rfl, fun c hc => by
    rcases hc with z | ⟨z1, z2, -⟩
    · subst z; exact ⟨Nat.le_refl _, fun h => absurd h (Nat.lt_irrefl _)⟩
    · omega⟩
  | k + 1 => by
    obtain ⟨a1, a2, a3⟩ := bmn_B g cand a k
    rw [bmn_s]
    by_cases z : (cand (a + (k + 1)) && decide (g (a + (k + 1)) < (bmn g cand a k).2)) = true
    · rw [if_pos z]
      rw [Bool.and_eq_true, decide_eq_true_iff] at z
      refine ⟨Or.inr ⟨by omega, by omega, z.1⟩, rfl, fun c hc => ?_⟩
      show g (a + (k + 1)) ≤ g c ∧ (c < a + (k + 1) → g (a + (k + 1)) < g c)
      by_cases y : c = a + (k + 1)
      · subst y; exact ⟨Nat.le_refl _, fun h => absurd h (Nat.lt_irrefl _)⟩
      · have := (a3 c (by rcases hc with q | ⟨q1, q2, q3⟩
                          · exact Or.inl q
                          · exact Or.inr ⟨q1, by omega, q3⟩)).1
        exact ⟨by omega, fun _ => by omega⟩
    · rw [if_neg z]
      refine ⟨?_, a2, fun c hc => ?_⟩
      · rcases a1 with q | ⟨q1, q2, q3⟩
        · exact Or.inl q
        · exact Or.inr ⟨q1, by omega, q3⟩
      · by_cases y : c = a + (k + 1)
        · subst y
          have hcand : cand (a + (k + 1)) = true := by
            rcases hc with q | ⟨-, -, q3⟩
            · omega
            · exact q3
          have h1 : ¬ g (a + (k + 1)) < (bmn g cand a k).2 := fun q => z (by rw [hcand, decide_eq_true q]; rfl)
          have h2 : (bmn g cand a k).1 ≤ a + k := by rcases a1 with q | ⟨-, q2, -⟩ <;> omega
          exact ⟨by omega, fun q => by omega⟩
        · exact a3 c (by rcases hc with q | ⟨q1, q2, q3⟩
                         · exact Or.inl q
                         · exact Or.inr ⟨q1, by omega, q3⟩)
/-- minutes in which it may turn -/
def cnd (v : eV) (c mn : Nat) : Bool := decide (∃ s, s < nS v ∧ whn v s + lat v c = mn)
def spS (v : eV) (c a b : Int32) : Bool := thr v c && (inN a 1440 && (inN b 1440 && !decide (b < a)))
def gNx (v : eV) (c : Nat) (x : Int64) (mn : Nat) : Nat := larV v c mn x
def gFg (v : eV) (c : Nat) (x : Int64) (mn : Nat) : Nat := 99 - kinV v c mn x
def bestV (v : eV) (g : Nat → Nat → Nat) (c a b : Nat) : Nat × Nat := bmn (g c) (cnd v c) a (b - a)
def sp_next (v : eV) (c a b w : Int32) : Int32 := if spS v c a b = true then (if inN w 2 = true then (if canV v = 0 then -1 else if w = 0 then nI (bestV v (fun c => gNx v c (canV v)) c.toNatClampNeg a.toNatClampNeg b.toNatClampNeg).1 else nI (bestV v (fun c => gNx v c (canV v)) c.toNatClampNeg a.toNatClampNeg b.toNatClampNeg).2) else -1) else -1
def sp_fog (v : eV) (c a b w : Int32) : Int32 := if spS v c a b = true then (if inN w 2 = true then (if canV v = 0 then -1 else if w = 0 then nI (bestV v (fun c => gFg v c (canV v)) c.toNatClampNeg a.toNatClampNeg b.toNatClampNeg).1 else nI (99 - (bestV v (fun c => gFg v c (canV v)) c.toNatClampNeg a.toNatClampNeg b.toNatClampNeg).2)) else -1) else -1
theorem spS_of {v : eV} {c a b : Int32} (h : spS v c a b = true) : ∃ k i j, k < 2 ∧ i < 1440 ∧ j < 1440 ∧ i ≤ j ∧ c = nI k ∧ a = nI i ∧ b = nI j := by
  unfold spS at h
  simp only [Bool.and_eq_true, Bool.not_eq_true', decide_eq_false_iff_not] at h
  obtain ⟨h1, h2, h3, h4⟩ := h
  obtain ⟨k, hk, rfl, -⟩ := thr_of h1
  obtain ⟨i, hi, rfl⟩ := inN_of (by decide) h2
  obtain ⟨j, hj, rfl⟩ := inN_of (by decide) h3
  rw [n_lt (by omega) (by omega)] at h4
  exact ⟨k, i, j, hk, hi, hj, by omega, rfl, rfl, rfl⟩
theorem Mo_isSpan_s {v : eV} (hv : Va v) {m : eM} (h : Mp v m) {D : Nat} (hD : 1 ≤ D) (c a b : Int32) : Mo_isSpan D 208 c a b m = yI (bb (spS v c a b)) m := by
  obtain ⟨d, rfl⟩ : ∃ d, D = d + 1 := ⟨D - 1, by omega⟩
  rw [Mo_isSpan_e _ _ _ _ _ _ kd_208, Mo_isThere_s hv h h.sk, br0, Mo_isMinute_s, br0, Mo_isMinute_s, br0]
  unfold spS
  cases thr v c
  · rfl
  · cases inN a 1440
    · rfl
    · cases inN b 1440
      · rfl
      · by_cases z : b < a
        · rw [if_pos rfl, if_pos rfl, if_pos rfl, if_pos z, decide_eq_true z]; rfl
        · rw [if_pos rfl, if_pos rfl, if_pos rfl, if_neg z, decide_eq_false z]; rfl
def sBy (a _ : Nat) : Bool := a == 248
theorem sBy_n {a j : Nat} (h : a ≠ 248) : sBy a j = false := by unfold sBy; simp [h]
theorem sBy_q {m m' : eM} (f : Fr sBy m m') : Fr sQ m m' := f.up fun a j h => by
  by_cases z : a = 248
  · subst z; have : sQ 248 j = true := rfl
    rw [this] at h; cases h
  · exact sBy_n z
theorem Rw.by {v : eV} {r : Nat → Nat} {n : Nat} {m m' : eM} (h : Rw v r n m) (f : Fr sBy m m') : Rw v r n m' := h.fr f rfl fun a j h1 h2 => sBy_n (by omega)
theorem Mo_classes_3_s {D : Nat} (c mn most : Int32) (x : Int64) : ∀ j b m, Sk m → (∀ k, k < b → gI m 248 k = 0) → b + j = 360 → ∃ m', Fr sBy m m' ∧ Mo_classes_3 (D + 1) 208 c mn x most (nI b) m = Mo_classes_34 (D + 1) 208 c mn x most 0 0 0 eU m' ∧ ∀ k, k < 360 → gI m' 248 k = 0
  | 0, b, m, hs, h0, e => by
    refine ⟨m, Fr.rfl', ?_, fun k hk => h0 k (by omega)⟩
    rw [Mo_classes_3_e _ _ _ _ _ _ _ _ kd_208, l_360, if_pos (by rw [n_le (by omega) (by omega)]; omega)]
  | j + 1, b, m, hs, h0, e => by
    have f : Fr sBy m (sI m 248 b 0) := Fr.rfl'.i rfl
    obtain ⟨m', f2, e2, h2⟩ := Mo_classes_3_s (D := D) c mn most x j (b + 1) (sI m 248 b 0) hs (fun k hk => by
      rw [gI_sI]
      by_cases z : k = b
      · rw [if_pos ⟨rfl, z⟩]
      · rw [if_neg (fun q => z q.2)]; exact h0 k (by omega)) (by omega)
    refine ⟨m', f.tr f2, ?_, h2⟩
    rw [Mo_classes_3_e _ _ _ _ _ _ _ _ kd_208, l_360, if_neg (by rw [n_le (by omega) (by omega)]; omega), rf_208_57 hs, bR_s, gw_248 (by omega), n_cl (by omega), mI_u, nI_1]
    exact e2
theorem Mo_classes_34_s {v : eV} (hv : Va v) (d : Nat) {c mn : Nat} (hc : c < 2) (hm : mn < 2000) (x : Int64) (most : Bool) : ∀ j w w9 m, Mp v m → Rw v (fun i => i) (nS v) m → (∀ b, b < 360 → gI m 248 b = nI (cb x (bW v c mn) w b)) → w + j = 2 ^ nF v → ∃ m', Fr sBy m m' ∧ Mo_classes_34 (d + 3) 208 (nI c) (nI mn) x (bb most) (nI (mxB x (bW v c mn) w)) (nI (kiB x (bW v c mn) w)) (nI w) w9 m = yI (nI (if most = true then mxB x (bW v c mn) (2 ^ nF v) else kiB x (bW v c mn) (2 ^ nF v))) m'
  | 0, w, w9, m, h, hr, hb, e => by
    have hnF := hv.f
    have hs := h.sk
    refine ⟨m, Fr.rfl', ?_⟩
    rw [Mo_classes_34_e _ _ _ _ _ _ _ _ _ _ _ kd_208, rf_208_10 hs, bR_s, gz_210, n_cl0, mp_f h, shl1 _ (by omega), if_pos (by rw [n_le (by have := W_le hv; omega) (by have := W_le hv; omega)]; omega), show 2 ^ nF v = w by omega]
    cases most <;> rfl
  | j + 1, w, w9, m, h, hr, hb, e => by
    have hnF := hv.f
    have hW := W_le hv
    have hs := h.sk
    have hw6 : w < 64 := by omega
    rw [Mo_classes_34_e _ _ _ _ _ _ _ _ _ _ _ kd_208, rf_208_10 hs, bR_s, gz_210, n_cl0, mp_f h, shl1 _ (by omega), if_neg (by rw [n_le (by omega) (by omega)]; omega), Mo_isIn_s _ _ hw6, br1]
    by_cases z : tb x w = true
    · have hbw : bW v c mn w < 360 := be_lt hv (pt0_le hv)
      have hcw : cb x (bW v c mn) w (bW v c mn w) ≤ w := cnt_le _ _
      have hmx : mxB x (bW v c mn) w ≤ 64 := by
        rcases mxN_in (f := cb x (bW v c mn) w) (n := 360) with q | ⟨k, hk, q⟩
        · have q' : mxB x (bW v c mn) w = 0 := q
          omega
        · have : cb x (bW v c mn) w k ≤ w := cnt_le _ _
          have q' : cb x (bW v c mn) w k = mxB x (bW v c mn) w := q
          omega
      have f : Fr sBy m (sI m 248 (bW v c mn w) (nI (cb x (bW v c mn) w (bW v c mn w) + 1))) := Fr.rfl'.i rfl
      have hs2 : Sk (sI m 248 (bW v c mn w) (nI (cb x (bW v c mn) w (bW v c mn w) + 1))) := hs
      obtain ⟨m', f2, e2⟩ := Mo_classes_34_s hv d hc hm x most j (w + 1) (.int (nI (bW v c mn w))) _ (h.q (sBy_q f)) (hr.by f) (fun b hb3 => by
        rw [gI_sI, cb_s, z, Bool.true_and]
        by_cases y : b = bW v c mn w
        · rw [if_pos ⟨rfl, y⟩, if_pos (decide_eq_true y.symm), y]
        · rw [if_neg (fun q => y q.2), if_neg (by rw [decide_eq_false (fun q => y q.symm)]; decide), hb b hb3, Nat.add_zero]) (by omega)
      refine ⟨m', f.tr f2, ?_⟩
      have eb : Mo_bearingAt (d + 2) 208 (nI c) (nI mn) (nI w) m = yI (nI (bW v c mn w)) m := Mo_bearingAt_s hv h hr (by omega) hc hm hw6
      rw [if_pos z, eb, bI_y, rf_208_57 hs, bR_s, ga_248 hbw, gw_248 hbw, n_cl (by omega), hb _ hbw, nI_1, mI_u, rf_208_57 hs2, bR_s, ga_248 hbw, gI_w, bR_s, ga_248 hbw, bR_s, ga_248 hbw, nI_1, ← e2, mxB_s z hbw, kiB_s z]
      have em : iMax (nI (mxB x (bW v c mn) w)) (nI (cb x (bW v c mn) w (bW v c mn w) + 1)) = nI (if mxB x (bW v c mn) w < cb x (bW v c mn) w (bW v c mn w) + 1 then cb x (bW v c mn) w (bW v c mn w) + 1 else mxB x (bW v c mn) w) := by
        unfold iMax
        by_cases y : mxB x (bW v c mn) w < cb x (bW v c mn) w (bW v c mn w) + 1
        · rw [if_pos y, if_pos (by rw [n_lt (by omega) (by omega)]; exact y)]
        · rw [if_neg y, if_neg (by rw [n_lt (by omega) (by omega)]; exact y)]
      rw [gI_w, em]
      by_cases y : cb x (bW v c mn) w (bW v c mn w) = 0
      · rw [if_neg (by rw [n_eq1 (by omega)]; omega), if_pos y, nI_1]
      · rw [if_pos (by rw [n_eq1 (by omega)]; omega), if_neg y, show (0 : Int32) = nI 0 from rfl, nI_add]
    · obtain ⟨m', f2, e2⟩ := Mo_classes_34_s hv d hc hm x most j (w + 1) w9 m h hr (fun b hb3 => by
        rw [hb b hb3, cb_s, if_neg (by rw [Bool.not_eq_true] at z; rw [z, Bool.false_and]; decide), Nat.add_zero]) (by omega)
      refine ⟨m', f2, ?_⟩
      rw [if_neg z, ← e2, mxB_k z, kiB_k z, nI_1]
/-- behind all worlds nothing more is counted -/
theorem cnt_tail {p : Nat → Bool} {a b : Nat} (hab : a ≤ b) (h : ∀ k, a ≤ k → p k = false) : cnt p a = cnt p b := by
  obtain ⟨c, rfl⟩ : ∃ c, b = a + c := ⟨b - a, by omega⟩
  rw [cnt_a, cnt_f (p := fun k => p (a + k)) fun k _ => h _ (by omega)]
  rfl
theorem mx_tail {x : Int64} {B : Nat → Nat} {a b : Nat} (hab : a ≤ b) (h : ∀ k, a ≤ k → tb x k = false) : mxB x B a = mxB x B b ∧ kiB x B a = kiB x B b := by
  constructor
  · unfold mxB
    refine congrArg (fun f => mxN f 360) (funext fun q => ?_)
    exact cnt_tail hab fun k hk => by rw [h k hk]; rfl
  · exact cnt_tail hab fun k hk => by unfold fst1; rw [h k hk]; rfl
theorem Mo_classes_s {v : eV} (hv : Va v) {D : Nat} (hD : 3 ≤ D) {c mn : Nat} (hc : c < 2) (hm : mn < 2000) {x : Int64} (hx : ∀ w, 2 ^ nF v ≤ w → tb x w = false) (most : Bool) {m : eM} (h : Mp v m) (hr : Rw v (fun i => i) (nS v) m) : ∃ m', Fr sBy m m' ∧ Mo_classes D 208 (nI c) (nI mn) x (bb most) m = yI (nI (if most = true then larV v c mn x else kinV v c mn x)) m' := by
  obtain ⟨d, rfl⟩ : ∃ d, D = d + 3 := ⟨D - 3, by omega⟩
  obtain ⟨m1, f1, e1, h1⟩ := Mo_classes_3_s (D := d + 2) (nI c) (nI mn) (bb most) x 360 0 m h.sk (fun k hk => absurd hk (Nat.not_lt_zero k)) (by omega)
  obtain ⟨m2, f2, e2⟩ := Mo_classes_34_s hv d hc hm x most (2 ^ nF v) 0 eU m1 (h.q (sBy_q f1)) (hr.by f1) (fun b hb => by rw [h1 b hb]; rfl) (by omega)
  refine ⟨m2, f1.tr f2, ?_⟩
  have hz : mxB x (bW v c mn) 0 = 0 := mxN_eq (fun k _ => Nat.le_refl 0) (Or.inl rfl)
  rw [hz] at e2
  rw [Mo_classes_e _ _ _ _ _ _ _ kd_208]
  refine e1.trans (e2.trans ?_)
  have ht := mx_tail (x := x) (B := bW v c mn) (W_le hv) hx
  rw [ht.1, ht.2]
  rfl
