/-! ===== SECRET ===== -/
def oneB (x : Int32) (k : Nat) : Bool := !decide (x < 1) && !decide (nI k < x)
theorem oneB_of {x : Int32} {k : Nat} (hk : k < 1000) (h : oneB x k = true) : ∃ j, 1 ≤ j ∧ j ≤ k ∧ x = nI j := by
  unfold oneB at h
  rw [Bool.and_eq_true, Bool.not_eq_true', Bool.not_eq_true', decide_eq_false_iff_not, decide_eq_false_iff_not] at h
  obtain ⟨h1, h2⟩ := h
  by_cases z : inN x (k + 1) = true
  · obtain ⟨j, hj, rfl⟩ := inN_of (by omega) z
    refine ⟨j, ?_, by omega, rfl⟩
    have h1 : ¬ nI j < nI 1 := h1
    rw [n_lt (by omega) (by omega)] at h1
    omega
  · rw [Bool.not_eq_true] at z
    exfalso
    rcases inN_no z with y | y
    · exact h1 (by
        rw [Int32.lt_iff_toInt_lt] at y ⊢
        have e0 : (0 : Int32).toInt = 0 := by decide
        have e1 : (1 : Int32).toInt = 1 := by decide
        omega)
    · exact h2 (by rw [Int32.le_iff_toInt_le] at y; rw [Int32.lt_iff_toInt_lt]; rw [nI_toInt (by omega)] at y ⊢; omega)
theorem Mo_within_o (d : Nat) (x : Int32) (k : Nat) (m : eM) : Mo_within d x 1 (nI k) m = yI (bb (oneB x k)) m := by
  rw [Mo_within_e]
  unfold oneB
  by_cases z : x < 1
  · rw [if_pos z, decide_eq_true z]; rfl
  · rw [if_neg z, decide_eq_false z]
    by_cases y : nI k < x
    · rw [if_pos y, decide_eq_true y]; rfl
    · rw [if_neg y, decide_eq_false y]; rfl
def secB (v : eV) (s l t n w : Int32) : Bool := thr v l && (plV v s (lawV v l.toNatClampNeg) && (oneB t 9 && (oneB n 15 && (inN w 2 && decide (whn v s.toNatClampNeg + lat v l.toNatClampNeg + n.toNatClampNeg ≤ 1440)))))
def secC (v : eV) (s l n : Nat) : Nat := poiV v l (who v s) (whn v s + lat v l) (whn v s + lat v l + n)
def secN (t c : Nat) (w : Int32) : Nat := ((if w = 0 then 10 - t else 10) / Nat.gcd 10 (10 - t)) ^ c
def secV (v : eV) (s l t n w : Int32) : Int64 := nJ (secN t.toNatClampNeg (secC v s.toNatClampNeg l.toNatClampNeg n.toNatClampNeg) w)
theorem secN_e {t c : Nat} (ht : t ≤ 9) (w : Int32) : (if w = 0 then (10 - t) ^ c else 10 ^ c) / Nat.gcd ((10 - t) ^ c) (10 ^ c) = secN t c w := by
  unfold secN
  rw [Nat.pow_gcd_pow, Nat.gcd_comm (10 - t) 10]
  by_cases z : w = 0
  · rw [if_pos z, if_pos z, Nat.div_pow (Nat.gcd_dvd_right _ _)]
  · rw [if_neg z, if_neg z, Nat.div_pow (Nat.gcd_dvd_left _ _)]
theorem pow_15 {a c : Nat} (ha : a ≤ 10) (hc : c ≤ 15) : a ^ c < 2 ^ 63 := by
  have h1 : a ^ c ≤ 10 ^ c := Nat.pow_le_pow_left ha c
  have h2 : 10 ^ c ≤ 10 ^ 15 := Nat.pow_le_pow_right (by decide) hc
  have h3 : 10 ^ 15 < 2 ^ 63 := by decide
  omega
/-! the reference -/
theorem Mo_secret_122_s {v : eV} (hv : Va v) {m : eM} (h : Mp v m) (hr : Rw v (fun i => i) (nS v) m) (d : Nat) {s l t n : Nat} (hs0 : s < nS v) (hl : l < 2) (ht : t ≤ 9) (hn : n ≤ 15) (w : Int32) : ∀ j k, k + j = n → Mo_secret_122 (d + 2) 208 (nI s) (nI l) (nI t) (nI n) w (nJ ((10 - t) ^ cnt (fun i => decide (pP v l (whn v s + lat v l + i) = who v s)) k)) (nJ (10 ^ cnt (fun i => decide (pP v l (whn v s + lat v l + i) = who v s)) k)) (nI k) m = yL (nJ (secN t (secC v s l n) w)) m
  | 0, k, e => by
    have hc := cnt_le (fun i => decide (pP v l (whn v s + lat v l + i) = who v s)) k
    have h1 : 0 < (10 - t) ^ cnt (fun i => decide (pP v l (whn v s + lat v l + i) = who v s)) k := Nat.pow_pos (by omega)
    rw [Mo_secret_122_e _ _ _ _ _ _ _ _ _ _ _ kd_208, if_pos (by rw [n_le (by omega) (by omega)]; omega), Mo_lowest_s _ w m (pow_15 (by omega) (by omega)) (pow_15 (by omega) (by omega)) h1, bL_y, secN_e ht]
    unfold secC poiV
    rw [show whn v s + lat v l + n - (whn v s + lat v l) = k by omega]
  | j + 1, k, e => by
    have hs := h.sk
    have hnS := hv.s
    have hla := hv.lt hl
    have hsx : sIx v s := Or.inl hs0
    have hwn := hv.wn hsx
    have hwh := hv.wh hsx
    have hp := hv.p
    have h1 := pP_lt hv l (whn v s + lat v l + k)
    have ih := Mo_secret_122_s hv h hr d hs0 hl ht hn w j (k + 1) (by omega)
    have es : cnt (fun i => decide (pP v l (whn v s + lat v l + i) = who v s)) (k + 1) = cnt (fun i => decide (pP v l (whn v s + lat v l + i) = who v s)) k + (if decide (pP v l (whn v s + lat v l + k) = who v s) = true then 1 else 0) := rfl
    rw [Mo_secret_122_e _ _ _ _ _ _ _ _ _ _ _ kd_208, if_neg (by rw [n_le (by omega) (by omega)]; omega), rf_208_46 hs, bR_s, ga_238 (by omega), rf_208_17 hs, bR_s, ga_217 (by omega), n_cl (by omega), n_cl (by omega), mp_whn h (by omega), mp_lat h hl, nI_add, nI_add, Mo_pt_s hv h hr (by omega) hl (by omega), bI_y, rf_208_45 hs, bR_s, ga_237 (by omega), mp_who h (by omega), nI_1, ← ih, es]
    by_cases z : pP v l (whn v s + lat v l + k) = who v s
    · rw [if_pos (by
        unfold pI
        rw [if_neg (by omega), z]), if_pos (decide_eq_true z), l_10, pk_sub (by omega), nI_J (by omega), show (10 : Int64) = nJ 10 from rfl, nJ_mul, nJ_mul, Nat.pow_succ, Nat.pow_succ]
    · rw [if_neg (fun y => z ((pI_i h1 (show who v s < 7 by omega)).mp (y.trans (by unfold pI; rw [if_neg (by omega)])))), if_neg (by rw [decide_eq_false z]; decide)]
      rfl
theorem Mo_secret_s {v : eV} (hv : Va v) {D : Nat} (hD : 5 ≤ D) {m : eM} (h : Mp v m) (s l t n w : Int32) : ∃ m', Fr sQ m m' ∧ (secB v s l t n w = true → Mo_secret D 208 s l t n w m = yL (secV v s l t n w) m' ∧ gI m' 208 0 = 0) ∧ (¬ secB v s l t n w = true → Mo_secret D 208 s l t n w m = yL 0 m' ∧ gI m' 208 0 = 1) := by
  obtain ⟨d, rfl⟩ : ∃ d, D = d + 5 := ⟨D - 5, by omega⟩
  have hs := h.sk
  have hx1 : ∀ m : eM, Sk m → Mo_secret_98 (d + 5) 208 s l t n w (sI m 208 0 1) = yL 0 (sI m 208 0 1) := fun m hs => by
    rw [Mo_secret_98_e _ _ _ _ _ _ _ _ kd_208, gI_w, if_neg (fun q => q rfl)]
  have e1 : Mo_secret_59 (d + 5) 208 s l t n w 208 1 m = yL 0 (sI m 208 0 1) := by
    rw [Mo_secret_59_e _ _ _ _ _ _ _ _ _ _ kd_208 kd_208, mI_u, gI_w, if_pos (by decide), hx1 m hs]
  have F1 : Fr sQ m (sI m 208 0 1) := Fr.rfl'.i rfl
  have bad : Mo_secret (d + 5) 208 s l t n w m = Mo_secret_59 (d + 5) 208 s l t n w 208 1 m → (¬ secB v s l t n w = true) → ∃ m', Fr sQ m m' ∧ (secB v s l t n w = true → Mo_secret (d + 5) 208 s l t n w m = yL (secV v s l t n w) m' ∧ gI m' 208 0 = 0) ∧ (¬ secB v s l t n w = true → Mo_secret (d + 5) 208 s l t n w m = yL 0 m' ∧ gI m' 208 0 = 1) := fun q y => ⟨_, F1, fun z => absurd z y, fun _ => ⟨q.trans e1, gI_w _ _ _ _⟩⟩
  by_cases z1 : thr v l = true
  · obtain ⟨k1, hk1, rfl, -⟩ := thr_of z1
    have hla : lawV v k1 < 2 := Nat.lt_succ_of_le (hv.la hk1)
    by_cases z2 : plV v s (lawV v k1) = true
    · by_cases z3 : oneB t 9 = true
      · by_cases z4 : oneB n 15 = true
        · by_cases z5 : inN w 2 = true
          · obtain ⟨t', t1, t2, rfl⟩ := oneB_of (by decide) z3
            obtain ⟨n', n1, n2, rfl⟩ := oneB_of (by decide) z4
            have z2' := z2
            unfold plV at z2'
            rw [Bool.and_eq_true] at z2'
            have hnS := hv.s
            obtain ⟨s', hs', rfl⟩ := inN_of (by omega) z2'.1
            have hlt := hv.lt hk1
            have hsx : sIx v s' := Or.inl hs'
            have hwn := hv.wn hsx
            have eq : Mo_secret (d + 5) 208 (nI s') (nI k1) (nI t') (nI n') w m = Mo_secret_59 (d + 5) 208 (nI s') (nI k1) (nI t') (nI n') w 208 0 m := by
              rw [Mo_secret_e _ _ _ _ _ _ _ _ kd_208, Mo_isThere_s hv h hs, br0, if_pos z1, rf_208_16 hs, bR_s, ga_216 (by omega), n_cl (by omega), mp_law h hk1, Mo_isToldLie_s hv h (by omega) _ hla, br0, if_pos z2, l_9, Mo_within_o, br0, if_pos z3, l_15, Mo_within_o, br0, if_pos z4, Mo_within_1, br0, if_pos z5]
            have h0 := th0 h
            have hs0 := h0.sk
            have e59 : Mo_secret_59 (d + 5) 208 (nI s') (nI k1) (nI t') (nI n') w 208 0 m = if whn v s' + lat v k1 + n' ≤ 1440 then Mo_secret_98 (d + 5) 208 (nI s') (nI k1) (nI t') (nI n') w (sI m 208 0 0) else Mo_secret_98 (d + 5) 208 (nI s') (nI k1) (nI t') (nI n') w (sI (sI m 208 0 0) 208 0 1) := by
              obtain ⟨n'', rfl⟩ : ∃ q, n' = q + 1 := ⟨n' - 1, by omega⟩
              rw [Mo_secret_59_e _ _ _ _ _ _ _ _ _ _ kd_208 kd_208, mI_u, gI_w, if_neg (fun q => q rfl), rf_208_46 hs0, bR_s, ga_238 (by omega), rf_208_17 hs0, bR_s, ga_217 (by omega), n_cl (by omega), n_cl (by omega), mp_whn h0 (by omega), mp_lat h0 hk1, mI_u, nI_add, nI_add, show whn v s' + lat v k1 + (n'' + 1) = (whn v s' + lat v k1 + n'') + 1 by omega, nI_pred, l_1439]
              by_cases y : whn v s' + lat v k1 + n'' + 1 ≤ 1440
              · rw [if_pos y, if_pos (by rw [n_le (by omega) (by omega)]; omega)]
              · rw [if_neg y, if_neg (by rw [n_le (by omega) (by omega)]; omega)]
            by_cases z6 : whn v s' + lat v k1 + n' ≤ 1440
            · have hb : secB v (nI s') (nI k1) (nI t') (nI n') w = true := by
                unfold secB
                rw [z1, n_cl (by omega), z2, z3, z4, z5, n_cl (by omega), n_cl (by omega), decide_eq_true z6]
                rfl
              obtain ⟨m1, f1, e2, r1⟩ := Mo_rows_0R hv (show 4 ≤ d + 4 by omega) h0
              have hm1 := h0.qR f1
              refine ⟨m1, f0.tr f1.R, fun _ => ?_, fun q => absurd hb q⟩
              have g0 : gI m1 208 0 = 0 := (f1.1 208 0 (by decide)).trans (gI_w _ _ _ _)
              refine ⟨?_, g0⟩
              have e3 := Mo_secret_122_s hv hm1 r1 (d + 3) hs' hk1 t2 n2 w n' 0 (by omega)
              have e3 : Mo_secret_122 (d + 5) 208 (nI s') (nI k1) (nI t') (nI n') w (1 : Int64) (1 : Int64) (0 : Int32) m1 = _ := e3
              rw [eq, e59, if_pos z6, Mo_secret_98_e _ _ _ _ _ _ _ _ kd_208, gI_w, if_pos (by decide), e2, bV_y, e3]
              unfold secV
              rw [n_cl (by omega), n_cl (by omega), n_cl (by omega), n_cl (by omega)]
            · have hb : ¬ secB v (nI s') (nI k1) (nI t') (nI n') w = true := by
                unfold secB
                rw [n_cl (by omega), n_cl (by omega), n_cl (by omega), decide_eq_false z6]
                simp
              refine ⟨_, (f0.i rfl : Fr sQ m (sI (sI m 208 0 0) 208 0 1)), fun q => absurd q hb, fun _ => ⟨?_, gI_w _ _ _ _⟩⟩
              rw [eq, e59, if_neg z6, hx1 _ hs0]
          · refine bad ?_ (fun q => z5 ?_)
            · rw [Mo_secret_e _ _ _ _ _ _ _ _ kd_208, Mo_isThere_s hv h hs, br0, if_pos z1, rf_208_16 hs, bR_s, ga_216 (by omega), n_cl (by omega), mp_law h hk1, Mo_isToldLie_s hv h (by omega) _ hla, br0, if_pos z2, l_9, Mo_within_o, br0, if_pos z3, l_15, Mo_within_o, br0, if_pos z4, Mo_within_1, br0, if_neg z5]
            · unfold secB at q
              simp only [Bool.and_eq_true] at q
              exact q.2.2.2.2.1
        · refine bad ?_ (fun q => z4 ?_)
          · rw [Mo_secret_e _ _ _ _ _ _ _ _ kd_208, Mo_isThere_s hv h hs, br0, if_pos z1, rf_208_16 hs, bR_s, ga_216 (by omega), n_cl (by omega), mp_law h hk1, Mo_isToldLie_s hv h (by omega) _ hla, br0, if_pos z2, l_9, Mo_within_o, br0, if_pos z3, l_15, Mo_within_o, br0, if_neg z4]
          · unfold secB at q
            simp only [Bool.and_eq_true] at q
            exact q.2.2.2.1
      · refine bad ?_ (fun q => z3 ?_)
        · rw [Mo_secret_e _ _ _ _ _ _ _ _ kd_208, Mo_isThere_s hv h hs, br0, if_pos z1, rf_208_16 hs, bR_s, ga_216 (by omega), n_cl (by omega), mp_law h hk1, Mo_isToldLie_s hv h (by omega) _ hla, br0, if_pos z2, l_9, Mo_within_o, br0, if_neg z3]
        · unfold secB at q
          simp only [Bool.and_eq_true] at q
          exact q.2.2.1
    · refine bad ?_ (fun q => z2 ?_)
      · rw [Mo_secret_e _ _ _ _ _ _ _ _ kd_208, Mo_isThere_s hv h hs, br0, if_pos z1, rf_208_16 hs, bR_s, ga_216 (by omega), n_cl (by omega), mp_law h hk1, Mo_isToldLie_s hv h (by omega) _ hla, br0, if_neg z2]
      · unfold secB at q
        rw [n_cl (by omega)] at q
        simp only [Bool.and_eq_true] at q
        exact q.2.1
  · refine bad ?_ (fun q => z1 ?_)
    · rw [Mo_secret_e _ _ _ _ _ _ _ _ kd_208, Mo_isThere_s hv h hs, br0, if_neg z1]
    · unfold secB at q
      simp only [Bool.and_eq_true] at q
      exact q.1
