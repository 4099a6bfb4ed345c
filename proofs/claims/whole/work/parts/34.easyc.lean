/-! ===== easy questions: the class ===== -/
theorem canV_fac {v : eV} (hv : Va v) (f : Nat) : canV v &&& (mk fun w => w.testBit f) = canV v &&& facM v f := t_ext fun w hw => by
  unfold facM
  rw [t_and, t_and, t_mk _ hw, t_mk _ hw]
  by_cases z : tb (canV v) w = true
  · rw [decide_eq_true (canV_lt hv z), Bool.true_and]
  · rw [Bool.not_eq_true] at z; rw [z]; rfl
theorem surN_fac {v : eV} (hv : Va v) (f : Nat) : surN (canV v) (mk fun w => w.testBit f) = surN (canV v) (facM v f) := surN_c fun w hw z => by
  unfold facM
  rw [t_mk _ hw, t_mk _ hw, decide_eq_true (canV_lt hv z), Bool.true_and]
theorem lieM_t {v : eV} {i l w : Nat} (hw : w < 2 ^ nF v) (h6 : w < 64) : tb (lieM v i l) w = lieV v i l w := by
  unfold lieM
  rw [t_mk _ h6, decide_eq_true hw, Bool.true_and]
theorem LC_lie_s {v : eV} (hv : Va v) {p : Nat} {m : eM} (h : Cn v p m) {D : Nat} (hD : 2 ≤ D) (s w : Int32) : ∃ m', Fr sK m m' ∧ LC_lie D 3 s w m = yI (sp_lie v s w) m' := by
  obtain ⟨d, rfl⟩ : ∃ d, D = d + 2 := ⟨D - 2, by omega⟩
  have hs := h.sk
  have hW := W_le hv
  have hnS := hv.s
  refine ⟨m, Fr.rfl', ?_⟩
  rw [LC_lie_e _ _ _ _ _ kd_3]
  simp only [rf_3_2 hs, rf_9_1 hs, h.r0, bR_s, gd9, gd22, h.gp, Tk_isIn_s h.t, Pa_isWorld_s hv h.p, br0, br1]
  unfold sp_lie
  by_cases z1 : inN s (nS v) = true
  · by_cases z2 : inN w (2 ^ nF v) = true
    · rw [if_pos z1, if_pos z1, if_pos z2, if_pos z2]
      obtain ⟨i, hi, rfl⟩ := inN_of (by omega) z1
      obtain ⟨u, hu, rfl⟩ := inN_of (by omega) z2
      have l0 : Tk_lies (d + 1) 22 (nI i) (0 : Int32) m = yL (lieM v i 0) m := Tk_lies_s h.t (show 1 ≤ d + 1 by omega) hi (show 0 < 2 by decide)
      have l1 : Tk_lies (d + 1) 22 (nI i) (1 : Int32) m = yL (lieM v i 1) m := Tk_lies_s h.t (show 1 ≤ d + 1 by omega) hi (show 1 < 2 by decide)
      have e79 : ∀ a b : Nat, LC_lie_79 (d + 2) 3 (nI i) (nI u) (nI a) (nI a) (nI b) m = yI (nI (a + b + (if lieV v i 1 u = true then 4 else 0))) m := by
        intro a b
        rw [LC_lie_79_e _ _ _ _ _ _ _ _ kd_3]
        simp only [rf_3_2 hs, rf_9_1 hs, bR_s, gd9, gd22, l1, bL_y, LC_holds_s _ _ (show u < 64 by omega), br0, lieM_t hu (show u < 64 by omega)]
        have k : ∀ c, yI (nI a + nI b + nI c) m = yI (nI (a + b + c)) m := fun c => by rw [nI_add, nI_add]
        by_cases y : lieV v i 1 u = true
        · rw [if_pos y, if_pos y]; exact k 4
        · rw [if_neg y, if_neg y]; exact k 0
      simp only [rf_3_2 hs, rf_9_1 hs, bR_s, gd9, gd22, Tk_so_s h.t (show 1 ≤ d + 1 by omega) hi, bL_y, LC_holds_s _ _ (show u < 64 by omega), br0, l0, lieM_t hu (show u < 64 by omega), n_cl (show i < 2147483648 by omega), n_cl (show u < 2147483648 by omega)]
      have e00 := e79 0 0
      have e02 := e79 0 2
      have e10 := e79 1 0
      have e12 := e79 1 2
      by_cases y0 : tb (soV v i) u = true
      · by_cases y1 : lieV v i 0 u = true
        · simp only [if_pos y0, if_pos y1]; exact e12
        · simp only [if_pos y0, if_neg y1]; exact e10
      · by_cases y1 : lieV v i 0 u = true
        · simp only [if_neg y0, if_pos y1]; exact e02
        · simp only [if_neg y0, if_neg y1]; exact e00
    · rw [if_pos z1, if_pos z1, if_neg z2, if_neg z2]
  · rw [if_neg z1, if_neg z1]
theorem LC_sureFact_s {v : eV} (hv : Va v) {p : Nat} {m : eM} (h : Cn v p m) {D : Nat} (hD : 5 ≤ D) (f : Int32) : ∃ m', Fr sK m m' ∧ LC_sureFact D 3 f m = yI (sp_sureFact v f) m' := by
  obtain ⟨d, rfl⟩ : ∃ d, D = d + 5 := ⟨D - 5, by omega⟩
  have hs := h.sk
  have hnF := hv.f
  rw [LC_sureFact_e _ _ _ _ kd_3]
  simp only [rf_3_2 hs, h.r0, bR_s, gd9, h.gp, Pa_isFact_s h.p, br0]
  unfold sp_sureFact
  by_cases z : inN f (nF v) = true
  · simp only [if_pos z]
    obtain ⟨k, hk, rfl⟩ := inN_of (by omega) z
    obtain ⟨m1, f1, e1⟩ := LC_possible_s hv h (show 4 ≤ d + 4 by omega)
    refine ⟨m1, sA_K f1, ?_⟩
    rw [e1, bL_y, LC_factSo_s (h.q (sA_K f1)).ss _ (by omega), bL_y, LC_sureness_s, bI_y, n_cl (by omega), surN_fac hv]
  · simp only [if_neg z]
    exact ⟨_, Fr.rfl', rfl⟩
theorem LC_sure_s {v : eV} (hv : Va v) {p : Nat} {m : eM} (h : Cn v p m) {D : Nat} (hD : 5 ≤ D) (s : Int32) : ∃ m', Fr sK m m' ∧ LC_sure D 3 s m = yI (sp_sure v s) m' := by
  obtain ⟨d, rfl⟩ : ∃ d, D = d + 5 := ⟨D - 5, by omega⟩
  have hs := h.sk
  have hnS := hv.s
  rw [LC_sure_e _ _ _ _ kd_3]
  simp only [rf_3_2 hs, rf_9_1 hs, bR_s, gd9, gd22, Tk_isIn_s h.t, br0]
  unfold sp_sure
  by_cases z : inN s (nS v) = true
  · simp only [if_pos z]
    obtain ⟨k, hk, rfl⟩ := inN_of (by omega) z
    obtain ⟨m1, f1, e1⟩ := LC_possible_s hv h (show 4 ≤ d + 4 by omega)
    have h1 := h.q (sA_K f1)
    have hs1 := h1.sk
    refine ⟨m1, sA_K f1, ?_⟩
    rw [e1, bL_y, rf_3_2 hs1, bR_s, gd9, rf_9_1 hs1, bR_s, gd22, Tk_so_s h1.t (by omega) hk, bL_y, LC_sureness_s, bI_y, n_cl (by omega)]
  · simp only [if_neg z]
    exact ⟨_, Fr.rfl', rfl⟩
theorem LC_worlds_s {v : eV} (hv : Va v) {p : Nat} {m : eM} (h : Cn v p m) {D : Nat} (hD : 5 ≤ D) (f : Int32) : ∃ m', Fr sK m m' ∧ LC_worlds D 3 f m = yI (sp_worlds v f) m' := by
  obtain ⟨d, rfl⟩ : ∃ d, D = d + 5 := ⟨D - 5, by omega⟩
  have hs := h.sk
  have hnF := hv.f
  obtain ⟨m1, f1, e1⟩ := LC_possible_s hv h (show 4 ≤ d + 4 by omega)
  have h1 := h.q (sA_K f1)
  rw [LC_worlds_e _ _ _ _ kd_3]
  unfold sp_worlds
  by_cases z : f = -1
  · refine ⟨m1, sA_K f1, ?_⟩
    rw [if_neg (fun q => q z), if_pos z, e1, bL_y, Lg_bitCount_s, bI_y]
  · rw [if_pos z, if_neg z]
    simp only [rf_3_2 hs, h.r0, bR_s, gd9, h.gp, Pa_isFact_s h.p, br0]
    by_cases z2 : inN f (nF v) = true
    · rw [if_pos z2, if_pos z2]
      obtain ⟨k, hk, rfl⟩ := inN_of (by omega) z2
      refine ⟨m1, sA_K f1, ?_⟩
      rw [e1, bL_y, LC_factSo_s h1.ss _ (by omega), bL_y, Lg_bitCount_s, bI_y, n_cl (by omega), canV_fac hv]
    · rw [if_neg z2, if_neg z2]
      exact ⟨_, Fr.rfl', rfl⟩
theorem LC_judged_2_s {v : eV} (hv : Va v) {p : Nat} (d : Nat) : ∀ j l m, Cn v p m → l + j = nL v → ∃ m', Fr sA m m' ∧ LC_judged_2 (d + 4) 3 (nI l) m = yI (jud v j l) m'
  | 0, l, m, h, e => by
    have hll := hv.l
    have hs := h.sk
    refine ⟨m, Fr.rfl', ?_⟩
    rw [LC_judged_2_e _ _ _ _ kd_3, rf_3_2 hs, bR_s, gd9, rf_9_3 hs, bR_s, gd34, Lo_size_e _ _ _ kd_34, h.l.2.2.1, bI_y, if_pos (by rw [n_le (by omega) (by omega)]; omega)]
    rfl
  | j + 1, l, m, h, e => by
    have hll := hv.l
    have hs := h.sk
    have htr := hv.tr
    have hW := W_le hv
    obtain ⟨m1, f1, e1⟩ := LC_fitting_s hv h (show 3 ≤ d + 3 by omega) (show l < nL v by omega)
    have h1 := h.q (sA_K f1)
    have hs1 := h1.sk
    obtain ⟨m2, f2, e2⟩ := LC_judged_2_s hv d j (l + 1) m1 h1 (by omega)
    rw [LC_judged_2_e _ _ _ _ kd_3, rf_3_2 hs, bR_s, gd9, rf_9_3 hs, bR_s, gd34, Lo_size_e _ _ _ kd_34, h.l.2.2.1, bI_y, if_neg (by rw [n_le (by omega) (by omega)]; omega), e1, bL_y, rf_3_2 hs1, bR_s, gd9, h1.tr, LC_holds_s _ _ (by omega), br1, jud_s, nI_1]
    have ef : tb (fitM v l) (tru v) = fitV v l (tru v) := by
      unfold fitM
      rw [t_mk _ (by omega), decide_eq_true htr, Bool.true_and]
    rw [ef]
    by_cases z : fitV v l (tru v) = true
    · rw [if_pos z, if_pos z]
      exact ⟨m2, f1.tr f2, e2⟩
    · rw [if_neg z, if_neg z]
      exact ⟨m1, f1, rfl⟩
theorem LC_judged_s {v : eV} (hv : Va v) {p : Nat} {m : eM} (h : Cn v p m) {D : Nat} (hD : 4 ≤ D) : ∃ m', Fr sK m m' ∧ LC_judged D 3 m = yI (jud v (nL v) 0) m' := by
  obtain ⟨d, rfl⟩ : ∃ d, D = d + 4 := ⟨D - 4, by omega⟩
  obtain ⟨m1, f1, e1⟩ := LC_judged_2_s hv d (nL v) 0 m h (by omega)
  exact ⟨m1, sA_K f1, by rw [LC_judged_e _ _ _ kd_3]; exact e1⟩
theorem tsw_n {k j : Nat} (hk : k < 1000) (hj : j < 1000) {A D : oX} {As : List oX} : tsw (nI k) (A :: As) D (nI j) = if j = k then A else tsw (nI (k + 1)) As D (nI j) := by
  show (if nI j = nI k then A else tsw (nI k + 1) As D (nI j)) = _
  rw [nI_1]
  by_cases z : j = k
  · rw [if_pos (by rw [z]), if_pos z]
  · rw [if_neg (by rw [n_eq (by omega) (by omega)]; exact z), if_neg z]
theorem tsw_o : ∀ {As : List oX} {k : Nat} {x : Int32} {D : oX}, k + As.length < 2147483648 → (∀ j, j < k + As.length → x ≠ nI j) → tsw (nI k) As D x = D
  | [], _, _, _, _, _ => rfl
  | A :: As, k, x, D, h, hx => by
    simp only [List.length_cons] at h hx
    show (if x = nI k then A else tsw (nI k + 1) As D x) = _
    rw [if_neg (hx k (by omega)), nI_1]
    exact tsw_o (by omega) fun j hj => hx j (by omega)
theorem ne_of_inN {x : Int32} {n : Nat} (hn : n < 2147483648) (h : ¬ inN x n = true) (j : Nat) (hj : j < n) : x ≠ nI j := fun e => h (by rw [e, inN_n (by omega) hn]; exact decide_eq_true hj)
theorem LC_person_s {v : eV} (hv : Va v) {p : Nat} {m : eM} (h : Cn v p m) {D : Nat} (hD : 2 ≤ D) (x w : Int32) : ∃ m', Fr sK m m' ∧ LC_person D 3 x w m = yI (sp_person v x w) m' := by
  obtain ⟨d, rfl⟩ : ∃ d, D = d + 2 := ⟨D - 2, by omega⟩
  have hs := h.sk
  have hnP := hv.p
  refine ⟨m, Fr.rfl', ?_⟩
  rw [LC_person_e _ _ _ _ _ kd_3]
  simp only [rf_3_2 hs, h.r0, bR_s, gd9, h.gp, Pa_isPerson_s h.p, br1]
  unfold sp_person
  by_cases z1 : inN x (nP v) = true
  · rw [if_pos z1, if_pos z1]
    obtain ⟨i, hi, rfl⟩ := inN_of (by omega) z1
    rw [Pa_home_s hv h.p (by omega) hi, Pa_bearing_p hv h.p _ (by omega), Pa_known_s hv h.p (by omega) hi, bI_y, bI_y, bI_y, show (0 : Int32) = nI 0 from rfl]
    have pe : peB v i = bea v (hom v i) := if_pos hi
    by_cases z2 : inN w 3 = true
    · rw [if_pos z2]
      obtain ⟨u, hu, rfl⟩ := inN_of (by omega) z2
      rw [tsw_n (by decide) (by omega), tsw_n (by decide) (by omega), tsw_n (by decide) (by omega), n_cl (by omega), pe]
      rcases (by omega : u = 0 ∨ u = 1 ∨ u = 2) with q | q | q <;> subst q <;> rfl
    · rw [if_neg z2]
      exact tsw_o (by show 0 + 3 < 2147483648; decide) fun j hj => ne_of_inN (by decide) z2 j hj
  · rw [if_neg z1, if_neg z1]
theorem LC_sector_21_s {v : eV} (hv : Va v) {p : Nat} {m : eM} (h : Cn v p m) (d : Nat) {x y : Nat} (hx : x < 360) (hy : y < 360) : ∀ j k, k + j = nP v → LC_sector_21 (d + 1) 3 (nI x) (nI y) (nI (sec v x y k)) (nI k) m = yI (nI (sec v x y (nP v))) m
  | 0, k, e => by
    have hs := h.sk
    have hnP := hv.p
    rw [LC_sector_21_e _ _ _ _ _ _ _ kd_3, rf_3_2 hs, bR_s, gd9, h.r0, bR_s, h.gp, Pa_people_s h.p, bI_y, if_pos (by rw [n_le (by omega) (by omega)]; omega), show nP v = k by omega]
  | j + 1, k, e => by
    have hs := h.sk
    have hnP := hv.p
    have hb := pe_lt hv k
    have ih := LC_sector_21_s hv h d hx hy j (k + 1) (by omega)
    rw [LC_sector_21_e _ _ _ _ _ _ _ kd_3, rf_3_2 hs, bR_s, gd9, h.r0, bR_s, h.gp, Pa_people_s h.p, bI_y, if_neg (by rw [n_le (by omega) (by omega)]; omega), rf_3_2 hs, bR_s, gd9, h.r0, bR_s, h.gp, Pa_bearing_p hv h.p _ (by omega), bI_y, LC_isWithin_s _ (by omega) (by omega) (by omega), br0, shl1 _ (by omega), orN, nI_1, ← ih]
    have es : sec v x y (k + 1) = sec v x y k ||| (if wiB (peB v k) x y = true then 2 ^ k else 0) := rfl
    by_cases z : wiB (peB v k) x y = true
    · rw [if_pos z, es, if_pos z]
    · rw [if_neg z, es, if_neg z, Nat.or_zero]
theorem LC_sector_s {v : eV} (hv : Va v) {p : Nat} {m : eM} (h : Cn v p m) {D : Nat} (hD : 1 ≤ D) (x y : Int32) : ∃ m', Fr sK m m' ∧ LC_sector D 3 x y m = yI (sp_sector v x y) m' := by
  obtain ⟨d, rfl⟩ : ∃ d, D = d + 1 := ⟨D - 1, by omega⟩
  refine ⟨m, Fr.rfl', ?_⟩
  rw [LC_sector_e _ _ _ _ _ kd_3, LC_isBearing_s, br0, LC_isBearing_s, br1]
  unfold sp_sector
  by_cases z1 : inN x 360 = true
  · rw [if_pos z1, if_pos z1]
    by_cases z2 : inN y 360 = true
    · rw [if_pos z2, if_pos z2]
      obtain ⟨i, hi, rfl⟩ := inN_of (by omega) z1
      obtain ⟨u, hu, rfl⟩ := inN_of (by omega) z2
      rw [n_cl (by omega), n_cl (by omega)]
      exact LC_sector_21_s hv h d hi hu (nP v) 0 (by omega)
    · rw [if_neg z2, if_neg z2]
  · rw [if_neg z1, if_neg z1]
