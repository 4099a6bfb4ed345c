/-! ===== the class: a parish that holds a view ===== -/
/-- the cells of a parish at p -/
def stP (p : Nat) : Prop := 3 ≤ p ∧ kk p = (4, 16) ∧ kk (p + 1) = (21, 6) ∧ kk (p + 2) = (20, 6) ∧ kk (p + 3) = (21, 6) ∧ kk (p + 4) = (20, 6) ∧ kk (p + 5) = (21, 6) ∧ kk (p + 6) = (20, 6) ∧ kk (p + 7) = (20, 6) ∧ kk (p + 8) = (20, 6) ∧ kk (p + 9) = (23, 2) ∧ kk (p + 10) = (20, 2) ∧ kk (p + 11) = (20, 2)
theorem kk_h (k i : Nat) (hi : i < 12) : kk (259 + 12 * k + i) = ePd.getD i (99, 0) := by
  unfold kk
  rw [if_neg (by unfold eN0; omega)]
  rw [show (259 + 12 * k + i - eN0) % 12 = i by unfold eN0; omega]
theorem stP_h (k : Nat) : stP (259 + 12 * k) := ⟨by omega, kk_h k 0 (by decide), kk_h k 1 (by decide), kk_h k 2 (by decide), kk_h k 3 (by decide), kk_h k 4 (by decide), kk_h k 5 (by decide), kk_h k 6 (by decide), kk_h k 7 (by decide), kk_h k 8 (by decide), kk_h k 9 (by decide), kk_h k 10 (by decide), kk_h k 11 (by decide)⟩
theorem stP_10 : stP 10 := by unfold stP; decide +kernel
theorem stP_69 : stP 69 := by unfold stP; decide +kernel
theorem stP_104 : stP 104 := by unfold stP; decide +kernel
theorem stP_139 : stP 139 := by unfold stP; decide +kernel
theorem stP_174 : stP 174 := by unfold stP; decide +kernel
def PaR (p : Nat) (m : eM) : Prop := gR m p 4 = some (p + 1) ∧ gR m p 5 = some (p + 2) ∧ gR m p 6 = some (p + 3) ∧ gR m p 7 = some (p + 4) ∧ gR m p 8 = some (p + 5) ∧ gR m p 9 = some (p + 6) ∧ gR m p 10 = some (p + 7) ∧ gR m p 11 = some (p + 8) ∧ gR m p 12 = some (p + 9) ∧ gR m p 13 = some (p + 10) ∧ gR m p 14 = some (p + 11)
/-- a NAME's letters in base 256, as the class holds it, out of base 27, as the reference does -/
def w8 : Nat → Nat → Nat
  | 0, _ => 0
  | f + 1, n => if n = 0 then 0 else w8 f (n / 27) * 256 + (n % 27 + 96)
def nm8 (n : Nat) : Int64 := lN (w8 8 n)
def Pp (v : eV) (p : Nat) (m : eM) : Prop := stP p ∧ PaR p m ∧ (gI m p 0 = nI (nF v) ∧ gI m p 1 = nI (nPl v) ∧ gI m p 2 = nI (nP v) ∧ gI m p 3 = nI (nCm v)) ∧ (∀ j, j < nF v → gL m (p + 1) j = nm8 (nam v j) ∧ gI m (p + 2) j = nI (cha v j)) ∧ (∀ j, j < nPl v → gL m (p + 3) j = nm8 (nam v (6 + j)) ∧ gI m (p + 4) j = nI (bea v j)) ∧ (∀ j, j < nP v → gL m (p + 5) j = nm8 (nam v (12 + j)) ∧ gI m (p + 6) j = nI (hom v j) ∧ gI m (p + 7) j = nI (bea v (hom v j)) ∧ gI m (p + 8) j = nI (kno v j)) ∧ (∀ c, c < 2 → gI m (p + 10) c = nI (lawV v c) ∧ gI m (p + 11) c = nI (lat v c)) ∧ gI m (p + 9) 1 = nI (isc v 1) ∧ gL m p 15 = com v
theorem Pp.fr {v : eV} {p : Nat} {m m' : eM} {S : Nat → Nat → Bool} (h : Pp v p m) (f : Fr S m m') (hS : ∀ a j, p ≤ a → a ≤ p + 11 → S a j = false) : Pp v p m' := by
  obtain ⟨h1, ⟨r4, r5, r6, r7, r8, r9, r10, r11, r12, r13, r14⟩, ⟨c0, c1, c2, c3⟩, hf, hpl, hp, hc, hi, hco⟩ := h
  refine ⟨h1, ⟨(f.r _ _).trans r4, (f.r _ _).trans r5, (f.r _ _).trans r6, (f.r _ _).trans r7, (f.r _ _).trans r8, (f.r _ _).trans r9, (f.r _ _).trans r10, (f.r _ _).trans r11, (f.r _ _).trans r12, (f.r _ _).trans r13, (f.r _ _).trans r14⟩, ⟨(f.1 _ _ (hS _ _ (by omega) (by omega))).trans c0, (f.1 _ _ (hS _ _ (by omega) (by omega))).trans c1, (f.1 _ _ (hS _ _ (by omega) (by omega))).trans c2, (f.1 _ _ (hS _ _ (by omega) (by omega))).trans c3⟩, fun j hj => ⟨(f.2.1 _ _ (hS _ _ (by omega) (by omega))).trans (hf j hj).1, (f.1 _ _ (hS _ _ (by omega) (by omega))).trans (hf j hj).2⟩, fun j hj => ⟨(f.2.1 _ _ (hS _ _ (by omega) (by omega))).trans (hpl j hj).1, (f.1 _ _ (hS _ _ (by omega) (by omega))).trans (hpl j hj).2⟩, fun j hj => ⟨(f.2.1 _ _ (hS _ _ (by omega) (by omega))).trans (hp j hj).1, (f.1 _ _ (hS _ _ (by omega) (by omega))).trans (hp j hj).2.1, (f.1 _ _ (hS _ _ (by omega) (by omega))).trans (hp j hj).2.2.1, (f.1 _ _ (hS _ _ (by omega) (by omega))).trans (hp j hj).2.2.2⟩, fun c hcc => ⟨(f.1 _ _ (hS _ _ (by omega) (by omega))).trans (hc c hcc).1, (f.1 _ _ (hS _ _ (by omega) (by omega))).trans (hc c hcc).2⟩, (f.1 _ _ (hS _ _ (by omega) (by omega))).trans hi, (f.2.1 _ _ (hS _ _ (by omega) (by omega))).trans hco⟩
/-! the guards at p + i -/
theorem pk_d {p i K L : Nat} (h : kk (p + i) = (K, L)) : kd (p + i) = K := (kk_l h).1
theorem pk_len {m : eM} {p i K L : Nat} (h : kk (p + i) = (K, L)) (h0 : 0 < p) : aln m (p + i) = L := (al_t (by omega)).trans (kk_l h).2
theorem pk_gl {p i K L : Nat} {o : oX} (h : kk (p + i) = (K, L)) (h2 : 20 ≤ K ∧ K ≤ 24) : gl (p + i) o = o := if_pos ⟨by rw [pk_d h]; exact h2.1, by rw [pk_d h]; exact h2.2⟩
theorem pk_ga {m : eM} {p i K L n : Nat} {o : oX} (h : kk (p + i) = (K, L)) (h0 : 0 < p) (hn : n < L) (hL : L ≤ 100000) : ga m (p + i) K (nI n) o = o := ga_t (pk_d h) (by omega) (by rw [(kk_l h).2]; exact hn) (by rw [(kk_l h).2]; exact hL)
theorem pk_gw {m : eM} {p i K L n : Nat} {o : oX} (h : kk (p + i) = (K, L)) (h0 : 3 ≤ p) (hn : n < L) (hL : L ≤ 100000) : gw m (p + i) K (nI n) o = o := gw_t (pk_d h) (by omega) (by rw [(kk_l h).2]; exact hn) (by rw [(kk_l h).2]; exact hL)
theorem Pp.kd {v : eV} {p : Nat} {m : eM} (h : Pp v p m) : kd p = 4 := (kk_l h.1.2.1).1
theorem Pa_isCock_r {p : Nat} {m : eM} (hp : stP p) (hr : PaR p m) (d : Nat) (x : Int32) : Pa_isCock d p x m = yI (bb (inN x 2)) m := by
  obtain ⟨h0, k0, k1, k2, k3, k4, k5, k6, k7, k8, k9, k10, k11⟩ := hp
  obtain ⟨r4, r5, r6, r7, r8, r9, r10, r11, r12, r13, r14⟩ := hr
  rw [Pa_isCock_e _ _ _ _ (kk_l k0).1, r12, r13, r14]
  simp only [bR_s, pk_gl k9 (by decide), pk_gl k10 (by decide), pk_gl k11 (by decide), pk_len k9 (by omega : 0 < p), pk_len k10 (by omega : 0 < p), pk_len k11 (by omega : 0 < p), toI]
  unfold inN
  by_cases z1 : x < 0
  · rw [if_pos z1, decide_eq_true z1]; rfl
  · rw [if_neg z1, decide_eq_false z1]
    by_cases z2 : nI 2 ≤ x
    · rw [if_pos z2, decide_eq_true z2]; rfl
    · rw [if_neg z2, if_neg z2, if_neg z2, decide_eq_false z2]; rfl
theorem Pa_isThere_s {v : eV} (hv : Va v) {p : Nat} {m : eM} (h : Pp v p m) {D : Nat} (hD : 1 ≤ D) (x : Int32) : Pa_isThere D p x m = yI (bb (thr v x)) m := by
  obtain ⟨d, rfl⟩ : ∃ d, D = d + 1 := ⟨D - 1, by omega⟩
  rw [Pa_isThere_e _ _ _ _ h.kd, Pa_isCock_r h.1 h.2.1, br0]
  obtain ⟨⟨h0, k0, k1, k2, k3, k4, k5, k6, k7, k8, k9, k10, k11⟩, ⟨r4, r5, r6, r7, r8, r9, r10, r11, r12, r13, r14⟩, -, -, -, -, -, hi, -⟩ := h
  unfold thr
  by_cases z : inN x 2 = true
  · rw [if_pos z, z, Bool.true_and]
    obtain ⟨k, hk, rfl⟩ := inN_of (by decide) z
    rw [n_cl (by omega)]
    rcases (by omega : k = 0 ∨ k = 1) with y | y
    · subst y
      rw [if_pos (by decide), decide_eq_true hv.i0]
      rfl
    · subst y
      rw [if_neg (by decide), r12, bR_s, pk_ga k9 (by omega) (by decide) (by decide), hi]
      have := hv.ic (j := 1) (by decide)
      by_cases q : isc v 1 = 1
      · rw [q, if_neg (by decide)]; rfl
      · rw [show isc v 1 = 0 by omega, if_pos (by decide)]; rfl
  · rw [if_neg z]
    rw [Bool.not_eq_true] at z
    rw [z]; rfl
theorem Pa_late_s {v : eV} {p : Nat} {m : eM} (h : Pp v p m) {D : Nat} (hD : 1 ≤ D) {c : Nat} (hc : c < 2) : Pa_late D p (nI c) m = yI (nI (lat v c)) m := by
  obtain ⟨d, rfl⟩ : ∃ d, D = d + 1 := ⟨D - 1, by omega⟩
  rw [Pa_late_e _ _ _ _ h.kd, Pa_isCock_r h.1 h.2.1, br0, inN_n (by omega) (by decide), if_pos (decide_eq_true hc)]
  obtain ⟨⟨h0, k0, k1, k2, k3, k4, k5, k6, k7, k8, k9, k10, k11⟩, ⟨r4, r5, r6, r7, r8, r9, r10, r11, r12, r13, r14⟩, -, -, -, -, hq, -, -⟩ := h
  rw [r14, bR_s, pk_ga k11 (by omega) hc (by decide), n_cl (by omega), (hq c hc).2]
theorem Pa_law_s {v : eV} {p : Nat} {m : eM} (h : Pp v p m) {D : Nat} (hD : 1 ≤ D) {c : Nat} (hc : c < 2) : Pa_law D p (nI c) m = yI (nI (lawV v c)) m := by
  obtain ⟨d, rfl⟩ : ∃ d, D = d + 1 := ⟨D - 1, by omega⟩
  rw [Pa_law_e _ _ _ _ h.kd, Pa_isCock_r h.1 h.2.1, br0, inN_n (by omega) (by decide), if_pos (decide_eq_true hc)]
  obtain ⟨⟨h0, k0, k1, k2, k3, k4, k5, k6, k7, k8, k9, k10, k11⟩, ⟨r4, r5, r6, r7, r8, r9, r10, r11, r12, r13, r14⟩, -, -, -, -, hq, -, -⟩ := h
  rw [r13, bR_s, pk_ga k10 (by omega) hc (by decide), n_cl (by omega), (hq c hc).1]
theorem Pa_isPerson_s {v : eV} {p : Nat} {m : eM} (h : Pp v p m) (d : Nat) (x : Int32) : Pa_isPerson d p x m = yI (bb (inN x (nP v))) m := by
  rw [Pa_isPerson_e _ _ _ _ h.kd, h.2.2.1.2.2.1, inN_t, yI_if]
theorem Pa_isFact_s {v : eV} {p : Nat} {m : eM} (h : Pp v p m) (d : Nat) (x : Int32) : Pa_isFact d p x m = yI (bb (inN x (nF v))) m := by
  rw [Pa_isFact_e _ _ _ _ h.kd, h.2.2.1.1, inN_t, yI_if]
theorem Pa_isWorld_s {v : eV} (hv : Va v) {p : Nat} {m : eM} (h : Pp v p m) (d : Nat) (x : Int32) : Pa_isWorld d p x m = yI (bb (inN x (2 ^ nF v))) m := by
  have := hv.f
  rw [Pa_isWorld_e _ _ _ _ h.kd, h.2.2.1.1, shl1 _ (by omega), inN_t, yI_if]
theorem Pa_bearing_s {v : eV} (hv : Va v) {p : Nat} {m : eM} (h : Pp v p m) (d : Nat) {k : Nat} (hk : k < 1000) : Pa_bearing d p (nI k) m = yI (nI (if k < nP v then bea v (hom v k) else 0)) m := by
  have hp := hv.p
  rw [Pa_bearing_e _ _ _ _ h.kd, if_neg (nI_pos (by omega)), h.2.2.1.2.2.1]
  obtain ⟨⟨h0, k0, k1, k2, k3, k4, k5, k6, k7, k8, k9, k10, k11⟩, ⟨r4, r5, r6, r7, r8, r9, r10, r11, r12, r13, r14⟩, -, -, -, hq, -, -, -⟩ := h
  by_cases z : k < nP v
  · rw [if_neg (by rw [n_le (by omega) (by omega)]; omega), if_pos z, r10, bR_s, pk_gl k7 (by decide), pk_len k7 (by omega), toI, if_neg (by rw [n_le (by omega) (by omega)]; omega), bR_s, pk_ga k7 (by omega) (by omega) (by decide), n_cl (by omega), (hq k z).2.2.1]
  · rw [if_pos (by rw [n_le (by omega) (by omega)]; omega), if_neg z]; rfl
theorem Pa_known_s {v : eV} (hv : Va v) {p : Nat} {m : eM} (h : Pp v p m) {D : Nat} (hD : 1 ≤ D) {k : Nat} (hk : k < nP v) : Pa_known D p (nI k) m = yI (nI (kno v k)) m := by
  obtain ⟨d, rfl⟩ : ∃ d, D = d + 1 := ⟨D - 1, by omega⟩
  have hp := hv.p
  rw [Pa_known_e _ _ _ _ h.kd, Pa_isPerson_s h, br0, inN_n (by omega) (by omega), if_pos (decide_eq_true hk)]
  obtain ⟨⟨h0, k0, k1, k2, k3, k4, k5, k6, k7, k8, k9, k10, k11⟩, ⟨r4, r5, r6, r7, r8, r9, r10, r11, r12, r13, r14⟩, -, -, -, hq, -, -, -⟩ := h
  rw [r11, bR_s, pk_gl k8 (by decide), pk_len k8 (by omega), toI, if_neg (by rw [n_le (by omega) (by omega)]; omega), bR_s, pk_ga k8 (by omega) (by omega) (by decide), n_cl (by omega), (hq k hk).2.2.2]
theorem Pa_home_s {v : eV} (hv : Va v) {p : Nat} {m : eM} (h : Pp v p m) {D : Nat} (hD : 1 ≤ D) {k : Nat} (hk : k < nP v) : Pa_home D p (nI k) m = yI (nI (hom v k)) m := by
  obtain ⟨d, rfl⟩ : ∃ d, D = d + 1 := ⟨D - 1, by omega⟩
  have hp := hv.p
  rw [Pa_home_e _ _ _ _ h.kd, Pa_isPerson_s h, br0, inN_n (by omega) (by omega), if_pos (decide_eq_true hk)]
  obtain ⟨⟨h0, k0, k1, k2, k3, k4, k5, k6, k7, k8, k9, k10, k11⟩, ⟨r4, r5, r6, r7, r8, r9, r10, r11, r12, r13, r14⟩, -, -, -, hq, -, -, -⟩ := h
  rw [r9, bR_s, pk_gl k6 (by decide), pk_len k6 (by omega), toI, if_neg (by rw [n_le (by omega) (by omega)]; omega), bR_s, pk_ga k6 (by omega) (by omega) (by decide), n_cl (by omega), (hq k hk).2.1]
theorem Pa_facts_s {v : eV} {p : Nat} {m : eM} (h : Pp v p m) (d : Nat) : Pa_facts d p m = yI (nI (nF v)) m := by rw [Pa_facts_e _ _ _ h.kd, h.2.2.1.1]
theorem Pa_places_s {v : eV} {p : Nat} {m : eM} (h : Pp v p m) (d : Nat) : Pa_places d p m = yI (nI (nPl v)) m := by rw [Pa_places_e _ _ _ h.kd, h.2.2.1.2.1]
theorem Pa_people_s {v : eV} {p : Nat} {m : eM} (h : Pp v p m) (d : Nat) : Pa_people d p m = yI (nI (nP v)) m := by rw [Pa_people_e _ _ _ h.kd, h.2.2.1.2.2.1]
theorem Pa_commons_s {v : eV} {p : Nat} {m : eM} (h : Pp v p m) (d : Nat) : Pa_commons d p m = yI (nI (nCm v)) m := by rw [Pa_commons_e _ _ _ h.kd, h.2.2.1.2.2.2]
theorem Pa_commonWorlds_s {v : eV} {p : Nat} {m : eM} (h : Pp v p m) (d : Nat) : Pa_commonWorlds d p m = yL (com v) m := by rw [Pa_commonWorlds_e _ _ _ h.kd, h.2.2.2.2.2.2.2.2]
theorem Pa_allWorlds_s {v : eV} (hv : Va v) {p : Nat} {m : eM} (h : Pp v p m) (d : Nat) : Pa_allWorlds d p m = yL (allM v) m := by
  have hf := hv.f
  rw [Pa_allWorlds_e _ _ _ h.kd, h.2.2.1.1, l_6]
  unfold allM
  by_cases z : nF v < 6
  · rw [if_pos (by rwa [n_lt (by omega) (by omega)]), all_w _ z]
  · rw [if_neg (by rwa [n_lt (by omega) (by omega)]), all_6, show nF v = 6 by omega]
