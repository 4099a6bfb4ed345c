theorem mx_le (x : Int64) (B : Nat → Nat) (n : Nat) : mxB x B n ≤ n := by
  rcases mxN_in (f := cb x B n) (n := 360) with q | ⟨k, hk, q⟩
  · have q' : mxB x B n = 0 := q
    omega
  · have : cb x B n k ≤ n := cnt_le _ _
    have q' : cb x B n k = mxB x B n := q
    omega
theorem ki_pos {x : Int64} {B : Nat → Nat} (hx : x ≠ 0) : 0 < kiB x B 64 := by
  have ex : ∃ w, w < 64 ∧ tb x w = true := Classical.byContradiction fun no => hx ((eq0_iff _).mpr fun w hw => by
    cases q : tb x w
    · rfl
    · exact absurd ⟨w, hw, q⟩ no)
  have lst : ∀ N, (∃ w, w < N ∧ tb x w = true) → ∃ w, w < N ∧ tb x w = true ∧ ∀ u, u < w → ¬ tb x u = true := by
    intro N
    induction N with
    | zero => rintro ⟨w, h, _⟩; exact absurd h (Nat.not_lt_zero w)
    | succ N ihN =>
      rintro ⟨w, h, e⟩
      by_cases q : ∃ w, w < N ∧ tb x w = true
      · obtain ⟨w, a, b⟩ := ihN q
        exact ⟨w, by omega, b⟩
      · exact ⟨w, h, e, fun u hu z => q ⟨u, by omega, z⟩⟩
  obtain ⟨w, hw, a, b⟩ := lst 64 ex
  exact cnt_pos.mpr ⟨w, hw, by
    unfold fst1
    rw [a, Bool.true_and]
    exact decide_eq_true fun u hu h => absurd h (b u hu)⟩
/-! the reference -/
theorem Mo_isAsBefore_10_s {v : eV} (hv : Va v) {m : eM} (h : Mp v m) (d : Nat) {c mn : Nat} (hc : c < 2) (hm : mn < 2000) (x3 : Int32) : ∀ j s, s + j = nS v → (∀ i, i < s → whn v i + lat v c ≠ mn) → Mo_isAsBefore_10 d 208 (nI c) (nI mn) x3 (nI s) m = yI (bb (!cnd v c mn)) m
  | 0, s, e, hno => by
    have hnS := hv.s
    have : cnd v c mn = false := decide_eq_false fun ⟨i, hi, q⟩ => hno i (by omega) q
    rw [Mo_isAsBefore_10_e _ _ _ _ _ _ _ kd_208, mp_s h, if_pos (by rw [n_le (by omega) (by omega)]; omega), this]
    rfl
  | j + 1, s, e, hno => by
    have hnS := hv.s
    have hs := h.sk
    have hl := hv.lt hc
    have hw := hv.wn (Or.inl (by omega) : sIx v s)
    rw [Mo_isAsBefore_10_e _ _ _ _ _ _ _ kd_208, mp_s h, if_neg (by rw [n_le (by omega) (by omega)]; omega), rf_208_46 hs, bR_s, ga_238 (by omega), rf_208_17 hs, bR_s, ga_217 (by omega), n_cl (by omega), n_cl (by omega), mp_whn h (by omega), mp_lat h hc, nI_add, nI_1]
    by_cases z : whn v s + lat v c = mn
    · have : cnd v c mn = true := decide_eq_true ⟨s, by omega, z⟩
      rw [if_neg (fun q => q (by rw [z])), this]
      rfl
    · rw [if_pos (by rw [n_eq (by omega) (by omega)]; exact z)]
      exact Mo_isAsBefore_10_s hv h d hc hm x3 j (s + 1) (by omega) fun i hi => by
        by_cases y : i = s
        · subst y; exact z
        · exact hno i (by omega)
theorem Mo_isAsBefore_s {v : eV} (hv : Va v) {m : eM} (h : Mp v m) (d : Nat) {c mn a : Nat} (hc : c < 2) (hm : mn < 2000) (ha : a < 2000) : Mo_isAsBefore d 208 (nI c) (nI mn) (nI a) m = yI (bb (!decide (mn = a) && !cnd v c mn)) m := by
  rw [Mo_isAsBefore_e _ _ _ _ _ _ kd_208]
  by_cases z : mn = a
  · rw [if_neg (fun q => q (by rw [z])), decide_eq_true z]; rfl
  · rw [if_pos (by rw [n_eq (by omega) (by omega)]; exact z), decide_eq_false z]
    exact Mo_isAsBefore_10_s hv h d hc hm (nI a) (nS v) 0 (by omega) fun i hi => absurd hi (Nat.not_lt_zero i)
theorem Mo_next_52_s {v : eV} (hv : Va v) (d : Nat) {c a b : Nat} (hc : c < 2) (ha : a ≤ b) (hb : b < 1440) (w : Int32) {x : Int64} (hx : ∀ w, 2 ^ nF v ≤ w → tb x w = false) : ∀ j k w10 m, Mp v m → Rw v (fun i => i) (nS v) m → a + k + j = b → ∃ m', Fr sQ m m' ∧ Mo_next_52 (d + 4) 208 (nI c) (nI a) (nI b) w x (nI (bmn (gNx v c x) (cnd v c) a k).1) (nI (bmn (gNx v c x) (cnd v c) a k).2) (nI (a + (k + 1))) w10 m = yI (if w = 0 then nI (bmn (gNx v c x) (cnd v c) a (b - a)).1 else nI (bmn (gNx v c x) (cnd v c) a (b - a)).2) m'
  | 0, k, w10, m, h, hr, e => by
    refine ⟨m, Fr.rfl', ?_⟩
    rw [Mo_next_52_e _ _ _ _ _ _ _ _ _ _ _ _ kd_208, if_pos (by rw [n_lt (by omega) (by omega)]; omega), show b - a = k by omega]
    by_cases z : w = 0
    · rw [if_neg (fun q => q z), if_pos z]
    · rw [if_pos z, if_neg z]
  | j + 1, k, w10, m, h, hr, e => by
    have hB := bmn_B (gNx v c x) (cnd v c) a k
    have hv2 : (bmn (gNx v c x) (cnd v c) a k).2 ≤ 64 := by rw [hB.2.1]; exact mx_le _ _ _
    rw [Mo_next_52_e _ _ _ _ _ _ _ _ _ _ _ _ kd_208, if_neg (by rw [n_lt (by omega) (by omega)]; omega), Mo_isAsBefore_s hv h _ hc (by omega) (by omega), br0, decide_eq_false (show ¬ a + (k + 1) = a by omega), Bool.not_false, Bool.true_and]
    by_cases z : cnd v c (a + (k + 1)) = true
    · obtain ⟨m1, f1, e1⟩ := Mo_classes_s hv (show 3 ≤ d + 3 by omega) hc (show a + (k + 1) < 2000 by omega) hx true h hr
      have hl : larV v c (a + (k + 1)) x ≤ 64 := mx_le _ _ _
      obtain ⟨m2, f2, e2⟩ := Mo_next_52_s hv d hc ha hb w hx j (k + 1) (.int (nI (larV v c (a + (k + 1)) x))) m1 (h.q (sBy_q f1)) (hr.by f1) (by omega)
      refine ⟨m2, (sBy_q f1).tr f2, ?_⟩
      rw [bb_t, if_pos rfl] at e1
      rw [if_neg (by rw [z]; decide), e1, bI_y, nI_1, ← e2, bmn_s, z, Bool.true_and]
      show _ = Mo_next_52 (d + 4) 208 (nI c) (nI a) (nI b) w x _ _ (nI (a + (k + 1 + 1))) _ m1
      by_cases y : gNx v c x (a + (k + 1)) < (bmn (gNx v c x) (cnd v c) a k).2
      · rw [if_pos (by rw [n_lt (by omega) (by omega)]; exact y), if_pos (decide_eq_true y)]; rfl
      · rw [if_neg (by rw [n_lt (by omega) (by omega)]; exact y), if_neg (fun q => y (of_decide_eq_true q))]; rfl
    · obtain ⟨m2, f2, e2⟩ := Mo_next_52_s hv d hc ha hb w hx j (k + 1) w10 m h hr (by omega)
      refine ⟨m2, f2, ?_⟩
      rw [Bool.not_eq_true] at z
      rw [z, if_pos (show (!false) = true from rfl), nI_1, ← e2, bmn_s, z, Bool.false_and, if_neg (by decide)]
      rfl
theorem Mo_fog_51_s {v : eV} (hv : Va v) (d : Nat) {c a b : Nat} (hc : c < 2) (ha : a ≤ b) (hb : b < 1440) (w : Int32) {x : Int64} (hx : ∀ w, 2 ^ nF v ≤ w → tb x w = false) : ∀ j k w10 m, Mp v m → Rw v (fun i => i) (nS v) m → a + k + j = b → ∃ m', Fr sQ m m' ∧ Mo_fog_51 (d + 4) 208 (nI c) (nI a) (nI b) w x (nI (bmn (gFg v c x) (cnd v c) a k).1) (nI (99 - (bmn (gFg v c x) (cnd v c) a k).2)) (nI (a + (k + 1))) w10 m = yI (if w = 0 then nI (bmn (gFg v c x) (cnd v c) a (b - a)).1 else nI (99 - (bmn (gFg v c x) (cnd v c) a (b - a)).2)) m'
  | 0, k, w10, m, h, hr, e => by
    refine ⟨m, Fr.rfl', ?_⟩
    rw [Mo_fog_51_e _ _ _ _ _ _ _ _ _ _ _ _ kd_208, if_pos (by rw [n_lt (by omega) (by omega)]; omega), show b - a = k by omega]
    by_cases z : w = 0
    · rw [if_neg (fun q => q z), if_pos z]
    · rw [if_pos z, if_neg z]
  | j + 1, k, w10, m, h, hr, e => by
    have hB := bmn_B (gFg v c x) (cnd v c) a k
    have hv2 : (bmn (gFg v c x) (cnd v c) a k).2 ≤ 99 := by rw [hB.2.1]; exact Nat.sub_le _ _
    rw [Mo_fog_51_e _ _ _ _ _ _ _ _ _ _ _ _ kd_208, if_neg (by rw [n_lt (by omega) (by omega)]; omega), Mo_isAsBefore_s hv h _ hc (by omega) (by omega), br0, decide_eq_false (show ¬ a + (k + 1) = a by omega), Bool.not_false, Bool.true_and]
    by_cases z : cnd v c (a + (k + 1)) = true
    · obtain ⟨m1, f1, e1⟩ := Mo_classes_s hv (show 3 ≤ d + 3 by omega) hc (show a + (k + 1) < 2000 by omega) hx false h hr
      have hl : kinV v c (a + (k + 1)) x ≤ 64 := cnt_le _ _
      obtain ⟨m2, f2, e2⟩ := Mo_fog_51_s hv d hc ha hb w hx j (k + 1) (.int (nI (kinV v c (a + (k + 1)) x))) m1 (h.q (sBy_q f1)) (hr.by f1) (by omega)
      refine ⟨m2, (sBy_q f1).tr f2, ?_⟩
      rw [bb_f, if_neg (by decide)] at e1
      rw [if_neg (by rw [z]; decide), e1, bI_y, nI_1, ← e2, bmn_s, z, Bool.true_and]
      have hg : gFg v c x (a + (k + 1)) = 99 - kinV v c (a + (k + 1)) x := rfl
      by_cases y : gFg v c x (a + (k + 1)) < (bmn (gFg v c x) (cnd v c) a k).2
      · rw [if_pos (by rw [n_lt (by omega) (by omega)]; omega), if_pos (decide_eq_true y)]
        show Mo_fog_51 (d + 4) 208 (nI c) (nI a) (nI b) w x (nI (a + (k + 1))) (nI (kinV v c (a + (k + 1)) x)) (nI (a + (k + 1 + 1))) _ m1 = Mo_fog_51 (d + 4) 208 (nI c) (nI a) (nI b) w x (nI (a + (k + 1))) (nI (99 - gFg v c x (a + (k + 1)))) (nI (a + (k + 1 + 1))) _ m1
        rw [hg, show 99 - (99 - kinV v c (a + (k + 1)) x) = kinV v c (a + (k + 1)) x by omega]
      · rw [if_neg (by rw [n_lt (by omega) (by omega)]; omega), if_neg (fun q => y (of_decide_eq_true q))]; rfl
    · obtain ⟨m2, f2, e2⟩ := Mo_fog_51_s hv d hc ha hb w hx j (k + 1) w10 m h hr (by omega)
      refine ⟨m2, f2, ?_⟩
      rw [Bool.not_eq_true] at z
      rw [z, if_pos (show (!false) = true from rfl), nI_1, ← e2, bmn_s, z, Bool.false_and, if_neg (by decide)]
      rfl
theorem canV_hx {v : eV} (hv : Va v) (w : Nat) (h : 2 ^ nF v ≤ w) : tb (canV v) w = false := by
  cases z : tb (canV v) w
  · rfl
  · have := canV_lt hv z; omega
theorem Mo_next_s {v : eV} (hv : Va v) {D : Nat} (hD : 6 ≤ D) {m : eM} (h : Mp v m) (c a b w : Int32) : ∃ m', Fr sQ m m' ∧ Mo_next D 208 c a b w m = yI (sp_next v c a b w) m' := by
  obtain ⟨d, rfl⟩ : ∃ d, D = d + 6 := ⟨D - 6, by omega⟩
  have h0 := th0 h
  rw [Mo_next_e _ _ _ _ _ _ _ kd_208, mI_u, Mo_isSpan_s hv h0 (by omega), br0, Mo_within_1, br1]
  unfold sp_next
  by_cases z1 : spS v c a b = true
  · rw [if_pos z1, if_pos z1]
    by_cases z2 : inN w 2 = true
    · rw [if_pos z2, if_pos z2]
      obtain ⟨m1, f1, e1, r1, -⟩ := Mo_canBe_s hv (show 5 ≤ d + 5 by omega) h0
      have h1 := h0.q f1
      rw [e1, bL_y]
      by_cases z3 : canV v = 0
      · refine ⟨m1, f0.tr f1, ?_⟩
        rw [if_neg (fun q => q ((cmp0 _ _).mpr z3)), if_pos z3]
      · rw [if_pos (fun q => z3 ((cmp0 _ _).mp q)), if_neg z3]
        obtain ⟨k, i, j, hk, hi, hj, hij, rfl, rfl, rfl⟩ := spS_of z1
        rw [n_cl (by omega), n_cl (by omega), n_cl (by omega)]
        obtain ⟨m2, f2, e2⟩ := Mo_classes_s hv (show 3 ≤ d + 5 by omega) hk (show i < 2000 by omega) (canV_hx hv) true h1 r1
        have hl : larV v k i (canV v) ≤ 64 := mx_le _ _ _
        rw [bb_t, if_pos rfl] at e2
        obtain ⟨m3, f3, e3⟩ := Mo_next_52_s hv (d + 2) hk hij hj w (canV_hx hv) (j - i) 0 (.int (nI (larV v k i (canV v)))) m2 (h1.q (sBy_q f2)) (r1.by f2) (by omega)
        refine ⟨m3, ((f0.tr f1).tr (sBy_q f2)).tr f3, ?_⟩
        rw [Mo_next_52_e _ _ _ _ _ _ _ _ _ _ _ _ kd_208, if_neg (by rw [n_lt (by omega) (by omega)]; omega), Mo_isAsBefore_s hv h1 _ hk (by omega) (by omega), decide_eq_true rfl, Bool.not_true, Bool.false_and, br0, if_neg (by decide), e2, bI_y, l_99, if_pos (by rw [n_lt (by omega) (by omega)]; omega), nI_1]
        exact e3
    · rw [if_neg z2, if_neg z2]
      exact ⟨_, f0, rfl⟩
  · rw [if_neg z1, if_neg z1]
    exact ⟨_, f0, rfl⟩
theorem Mo_fog_s {v : eV} (hv : Va v) {D : Nat} (hD : 6 ≤ D) {m : eM} (h : Mp v m) (c a b w : Int32) : ∃ m', Fr sQ m m' ∧ Mo_fog D 208 c a b w m = yI (sp_fog v c a b w) m' := by
  obtain ⟨d, rfl⟩ : ∃ d, D = d + 6 := ⟨D - 6, by omega⟩
  have h0 := th0 h
  rw [Mo_fog_e _ _ _ _ _ _ _ kd_208, mI_u, Mo_isSpan_s hv h0 (by omega), br0, Mo_within_1, br1]
  unfold sp_fog
  by_cases z1 : spS v c a b = true
  · rw [if_pos z1, if_pos z1]
    by_cases z2 : inN w 2 = true
    · rw [if_pos z2, if_pos z2]
      obtain ⟨m1, f1, e1, r1, -⟩ := Mo_canBe_s hv (show 5 ≤ d + 5 by omega) h0
      have h1 := h0.q f1
      rw [e1, bL_y]
      by_cases z3 : canV v = 0
      · refine ⟨m1, f0.tr f1, ?_⟩
        rw [if_neg (fun q => q ((cmp0 _ _).mpr z3)), if_pos z3]
      · rw [if_pos (fun q => z3 ((cmp0 _ _).mp q)), if_neg z3]
        obtain ⟨k, i, j, hk, hi, hj, hij, rfl, rfl, rfl⟩ := spS_of z1
        rw [n_cl (by omega), n_cl (by omega), n_cl (by omega)]
        obtain ⟨m2, f2, e2⟩ := Mo_classes_s hv (show 3 ≤ d + 5 by omega) hk (show i < 2000 by omega) (canV_hx hv) false h1 r1
        have hl : kinV v k i (canV v) ≤ 64 := cnt_le _ _
        have hl0 : 0 < kinV v k i (canV v) := ki_pos z3
        rw [bb_f, if_neg (by decide)] at e2
        obtain ⟨m3, f3, e3⟩ := Mo_fog_51_s hv (d + 2) hk hij hj w (canV_hx hv) (j - i) 0 (.int (nI (kinV v k i (canV v)))) m2 (h1.q (sBy_q f2)) (r1.by f2) (by omega)
        have e3 : Mo_fog_51 (d + 6) 208 (nI k) (nI i) (nI j) w (canV v) (nI i) (nI (99 - (99 - kinV v k i (canV v)))) (nI (i + 1)) (.int (nI (kinV v k i (canV v)))) m2 = _ := e3
        refine ⟨m3, ((f0.tr f1).tr (sBy_q f2)).tr f3, ?_⟩
        rw [Mo_fog_51_e _ _ _ _ _ _ _ _ _ _ _ _ kd_208, if_neg (by rw [n_lt (by omega) (by omega)]; omega), Mo_isAsBefore_s hv h1 _ hk (by omega) (by omega), decide_eq_true rfl, Bool.not_true, Bool.false_and, br0, if_neg (by decide), e2, bI_y, if_pos (show (0 : Int32) < nI (kinV v k i (canV v)) by show nI 0 < _; rw [n_lt (by omega) (by omega)]; exact hl0), nI_1]
        rw [show 99 - (99 - kinV v k i (canV v)) = kinV v k i (canV v) by omega] at e3
        exact e3
    · rw [if_neg z2, if_neg z2]
      exact ⟨_, f0, rfl⟩
  · rw [if_neg z1, if_neg z1]
    exact ⟨_, f0, rfl⟩
