/-! ===== PROOF, CLASH: the class ===== -/
theorem gL_w (m : eM) (a j : Nat) (x : Int64) : gL (sL m a j x) a j = x := if_pos ⟨rfl, rfl⟩
theorem gI_w (m : eM) (a j : Nat) (x : Int32) : gI (sI m a j x) a j = x := if_pos ⟨rfl, rfl⟩
theorem LC_fittingSet_s {v : eV} (hv : Va v) {p : Nat} {m : eM} (h : Cn v p m) {D : Nat} (hD : 1 ≤ D) {n : Nat} (hn : n < 2 ^ nL v) (h66 : ∀ k, k < nL v → gL m 66 k = fitM v k) (h67 : ∀ k, k < n → gL m 67 k = wi v k) : LC_fittingSet D 3 (nI n) m = yL (wi v n) m := by
  obtain ⟨d, rfl⟩ : ∃ d, D = d + 1 := ⟨D - 1, by omega⟩
  have hs := h.sk
  have hL := L_le hv
  have hnL := hv.l
  rw [LC_fittingSet_e _ _ _ _ kd_3, In_ntz_s, bI_y]
  by_cases z : n = 0
  · subst z
    rw [if_pos (by decide), rf_3_2 hs, bR_s, gd9, h.r0, bR_s, h.gp, Pa_commonWorlds_s h.p, bL_y, wi_0]
  · obtain ⟨e1, e2, e3, e4⟩ := lob_s (show 0 < n by omega) (show n < 4096 by omega)
    have hf : lob n < nL v := by
      rcases Nat.lt_or_ge (lob n) (nL v) with y | y
      · exact y
      · rw [Nat.testBit_lt_two_pow (Nat.lt_of_lt_of_le hn (Nat.pow_le_pow_right (by decide) y))] at e2; cases e2
    rw [if_neg (by rw [n_le0 (by omega)]; exact z), rf_3_11 hs, bR_s, gl_67, al_67, toI, n_s1 (by omega), andN, e3, if_neg (by rw [n_le (by omega) (by omega)]; omega), rf_3_10 hs, bR_s, gl_66, al_66, e1, toI, if_pos (by rw [n_lt (by omega) (by omega)]; omega), bR_s, ga_67 (by omega), bR_s, ga_66 (by omega), n_cl (by omega), n_cl (by omega), h66 _ hf, h67 _ e4, ← wi_low hf e2]
theorem LC_fewestLooksWithout_53_s {v : eV} (hv : Va v) {p : Nat} (d : Nat) (y : Int64) : ∀ j n m, Cn v p m → (∀ k, k < nL v → gL m 66 k = fitM v k) → (∀ k, k < n → gL m 67 k = wi v k) → n + j = 2 ^ nL v → ∃ m', Fr sK m m' ∧ LC_fewestLooksWithout_53 (d + 2) 3 y (nI (nL v)) (oI (few (gdS v y) n)) (nI n) m = yI (oI (few (gdS v y) (2 ^ nL v))) m'
  | 0, n, m, h, h66, h67, e => by
    have hs := h.sk
    have hL := L_le hv
    have hnL := hv.l
    refine ⟨m, Fr.rfl', ?_⟩
    rw [LC_fewestLooksWithout_53_e _ _ _ _ _ _ _ kd_3, shl1 _ (by omega), if_pos (by rw [n_le (by omega) (by omega)]; omega), show 2 ^ nL v = n by omega]
  | j + 1, n, m, h, h66, h67, e => by
    have hs := h.sk
    have hL := L_le hv
    have hnL := hv.l
    have f1 : Fr sK m (sL m 67 n (wi v n)) := Fr.rfl'.l rfl
    have h1 := h.q f1
    have hs1 := h1.sk
    obtain ⟨m', f2, e2⟩ := LC_fewestLooksWithout_53_s hv d y j (n + 1) (sL m 67 n (wi v n)) h1 (fun k hk => by rw [gL_sL, if_neg (by omega)]; exact h66 k hk) (fun k hk => by
      rw [gL_sL]
      by_cases z : k = n
      · subst z; rw [if_pos ⟨rfl, rfl⟩]
      · rw [if_neg (fun q => z q.2)]; exact h67 k (by omega)) (by omega)
    refine ⟨m', f1.tr f2, ?_⟩
    rw [LC_fewestLooksWithout_53_e _ _ _ _ _ _ _ kd_3, shl1 _ (by omega), if_neg (by rw [n_le (by omega) (by omega)]; omega), rf_3_11 hs, bR_s, gl_67, al_67, toI, if_neg (by rw [n_le (by omega) (by omega)]; omega), bR_s, LC_fittingSet_s hv h (by omega) (by omega) h66 h67, bL_y, gw_67 (by omega), mJ_u, n_cl (by omega), LC_isFewer_s (by omega) (by omega) (few_b (by omega)), br0, rf_3_11 hs1, bR_s, ga_67 (by omega), gL_w, nI_1, ← e2, few_s]
    by_cases q : fwr n (few (gdS v y) n) = true
    · rw [if_pos q, q, Bool.and_true]
      by_cases z : gdS v y n = true
      · have z' := of_decide_eq_true z
        rw [if_neg (fun w => w ((cmp0 _ _).mpr z')), if_pos z]; rfl
      · have z' : ¬ wi v n &&& y = 0 := fun w => z (decide_eq_true w)
        rw [if_pos (fun w => z' ((cmp0 _ _).mp w)), if_neg z]
    · rw [if_neg q]
      rw [Bool.not_eq_true] at q
      rw [q, Bool.and_false]
      rfl
theorem LC_fewestLooksWithout_22_s {v : eV} (hv : Va v) {p : Nat} (d : Nat) (y : Int64) : ∀ j l m, Cn v p m → (∀ k, k < l → gL m 66 k = fitM v k) → l + j = nL v → ∃ m', Fr sK m m' ∧ LC_fewestLooksWithout_22 (d + 4) 3 y (nI (nL v)) (nI l) m = yI (oI (few (gdS v y) (2 ^ nL v))) m'
  | 0, l, m, h, h66, e => by
    have hnL := hv.l
    obtain ⟨m', f2, e2⟩ := LC_fewestLooksWithout_53_s hv (d + 2) y (2 ^ nL v) 0 m h (fun k hk => h66 k (by omega)) (fun k hk => absurd hk (Nat.not_lt_zero k)) (by omega)
    refine ⟨m', f2, ?_⟩
    rw [LC_fewestLooksWithout_22_e _ _ _ _ _ _ kd_3, if_pos (by rw [n_le (by omega) (by omega)]; omega)]
    exact e2
  | j + 1, l, m, h, h66, e => by
    have hs := h.sk
    have hnL := hv.l
    obtain ⟨m1, f1, e1⟩ := LC_fitting_s hv h (show 3 ≤ d + 3 by omega) (show l < nL v by omega)
    have f2 : Fr sK m (sL m1 66 l (fitM v l)) := (sA_K f1).l rfl
    obtain ⟨m', f3, e3⟩ := LC_fewestLooksWithout_22_s hv d y j (l + 1) _ (h.q f2) (fun k hk => by
      rw [gL_sL]
      by_cases z : k = l
      · subst z; rw [if_pos ⟨rfl, rfl⟩]
      · rw [if_neg (fun q => z q.2), f1.2.1 66 k (sA_n (by decide) (by decide))]; exact h66 k (by omega)) (by omega)
    refine ⟨m', f2.tr f3, ?_⟩
    rw [LC_fewestLooksWithout_22_e _ _ _ _ _ _ kd_3, if_neg (by rw [n_le (by omega) (by omega)]; omega), rf_3_10 hs, bR_s, e1, bL_y, gw_66 (by omega), mJ_u, n_cl (by omega), nI_1]
    exact e3
theorem LC_fewestLooksWithout_s {v : eV} (hv : Va v) {p : Nat} {m : eM} (h : Cn v p m) {D : Nat} (hD : 4 ≤ D) (y : Int64) : ∃ m', Fr sK m m' ∧ LC_fewestLooksWithout D 3 y m = yI (oI (few (gdS v y) (2 ^ nL v))) m' := by
  obtain ⟨d, rfl⟩ : ∃ d, D = d + 4 := ⟨D - 4, by omega⟩
  have hs := h.sk
  have hnL := hv.l
  obtain ⟨m', f, e⟩ := LC_fewestLooksWithout_22_s hv d y (nL v) 0 m h (fun k hk => absurd hk (Nat.not_lt_zero k)) (by omega)
  refine ⟨m', f, ?_⟩
  have em : iMin (nI (nL v)) (nI 12) = nI (nL v) := by
    unfold iMin
    rw [if_neg]
    rw [n_lt (by omega) (by omega)]
    omega
  rw [LC_fewestLooksWithout_e _ _ _ _ kd_3, rf_3_2 hs, bR_s, gd9, rf_9_3 hs, bR_s, gd34, Lo_size_e _ _ _ kd_34, h.l.2.2.1, bI_y, rf_3_10 hs, bR_s, gl_66, al_66, toI, em]
  exact e
theorem LC_proof_s {v : eV} (hv : Va v) {p : Nat} {m : eM} (h : Cn v p m) {D : Nat} (hD : 5 ≤ D) (s w : Int32) : ∃ m', Fr sK m m' ∧ LC_proof D 3 s w m = yI (sp_proof v s w) m' := by
  obtain ⟨d, rfl⟩ : ∃ d, D = d + 5 := ⟨D - 5, by omega⟩
  have hs := h.sk
  have hnS := hv.s
  have hL := L_le hv
  rw [LC_proof_e _ _ _ _ _ kd_3, rf_3_2 hs, bR_s, gd9, rf_9_1 hs, bR_s, gd22, Tk_isIn_s h.t, br0, LC_isWhat_s, br1, rf_3_2 hs, bR_s, gd9, rf_9_1 hs, bR_s, gd22]
  unfold sp_proof
  by_cases z1 : inN s (nS v) = true
  · by_cases z2 : inN w 2 = true
    · rw [if_pos z1, if_pos z1, if_pos z2, if_pos z2]
      obtain ⟨k, hk, rfl⟩ := inN_of (by omega) z1
      obtain ⟨m1, f1, e1⟩ := LC_possible_s hv h (show 4 ≤ d + 4 by omega)
      have h1 := h.q (sA_K f1)
      rw [Tk_so_s h.t (by omega) hk, bL_y, e1, bL_y, LC_sureness_s, bI_y, n_cl (by omega)]
      by_cases y : sur2 (canV v) (soV v k) = true
      · rw [if_pos (by unfold sur2 at y; rcases of_decide_eq_true y with q | q <;> rw [q] <;> decide), if_pos y]
        by_cases q : surN (canV v) (soV v k) = 1
        · obtain ⟨m2, f2, e2⟩ := LC_fewestLooksWithout_s hv h1 (show 4 ≤ d + 4 by omega) (soV v k ^^^ (-1))
          refine ⟨m2, (sA_K f1).tr f2, ?_⟩
          rw [if_neg (fun z => z q), if_pos q, e2, bI_y, LC_sizeOrSet_s (by omega) (few_b (by omega)), bI_y]
        · obtain ⟨m2, f2, e2⟩ := LC_fewestLooksWithout_s hv h1 (show 4 ≤ d + 4 by omega) (soV v k)
          refine ⟨m2, (sA_K f1).tr f2, ?_⟩
          rw [if_pos q, if_neg q, e2, bI_y, LC_sizeOrSet_s (by omega) (few_b (by omega)), bI_y]
      · refine ⟨m1, sA_K f1, ?_⟩
        rw [if_neg y, if_neg]
        intro q
        apply y
        unfold sur2
        rcases surN_4 (canV v) (soV v k) with e | e | e | e
        · exact decide_eq_true (Or.inl e)
        · exact decide_eq_true (Or.inr e)
        · rw [e] at q; exact absurd q (by decide)
        · rw [e] at q; exact absurd q (by decide)
    · rw [if_pos z1, if_pos z1, if_neg z2, if_neg z2]
      exact ⟨_, Fr.rfl', rfl⟩
  · rw [if_neg z1, if_neg z1]
    exact ⟨_, Fr.rfl', rfl⟩
theorem LC_clash_s {v : eV} (hv : Va v) {p : Nat} {m : eM} (h : Cn v p m) {D : Nat} (hD : 5 ≤ D) (w : Int32) : ∃ m', Fr sK m m' ∧ LC_clash D 3 w m = yI (sp_clash v w) m' := by
  obtain ⟨d, rfl⟩ : ∃ d, D = d + 5 := ⟨D - 5, by omega⟩
  have hL := L_le hv
  rw [LC_clash_e _ _ _ _ kd_3, LC_isWhat_s, br0]
  unfold sp_clash
  by_cases z2 : inN w 2 = true
  · rw [if_pos z2, if_pos z2]
    obtain ⟨m1, f1, e1⟩ := LC_possible_s hv h (show 4 ≤ d + 4 by omega)
    have h1 := h.q (sA_K f1)
    have hs := h1.sk
    rw [e1, bL_y]
    by_cases y : canV v = 0
    · obtain ⟨m2, f2, e2⟩ := LC_fewestLooksWithout_s hv h1 (show 4 ≤ d + 4 by omega) (allM v)
      refine ⟨m2, (sA_K f1).tr f2, ?_⟩
      rw [if_pos ((cmp0 _ _).mpr y), if_pos y, rf_3_2 hs, bR_s, gd9, h1.r0, bR_s, h1.gp, Pa_allWorlds_s hv h1.p, bL_y, e2, bI_y, LC_sizeOrSet_s (by omega) (few_b (by omega)), bI_y]
    · refine ⟨m1, sA_K f1, ?_⟩
      rw [if_neg (fun q => y ((cmp0 _ _).mp q)), if_neg y]
  · rw [if_neg z2, if_neg z2]
    exact ⟨_, Fr.rfl', rfl⟩
