/-! ===== ODDS ===== -/
def wgN (v : eV) (w : Nat) : Nat → Nat
  | 0 => 1
  | n + 1 => wgN v w n * (if w.testBit n = true then cha v n else 10 - cha v n)
theorem wgN_le {v : eV} (hv : Va v) (w : Nat) : ∀ n, n ≤ nF v → wgN v w n ≤ 10 ^ n
  | 0, _ => Nat.le_refl _
  | n + 1, h => by
    have ih := wgN_le hv w n (by omega)
    have hc := hv.ch (show n < nF v by omega)
    show wgN v w n * _ ≤ 10 ^ n * 10
    refine Nat.mul_le_mul ih ?_
    by_cases z : w.testBit n = true
    · rw [if_pos z]; exact hc
    · rw [if_neg z]; omega
theorem wgN_6 {v : eV} (hv : Va v) (w : Nat) : wgN v w (nF v) ≤ 1000000 := by
  have h1 := wgN_le hv w (nF v) (Nat.le_refl _)
  have h2 : 10 ^ nF v ≤ 10 ^ 6 := Nat.pow_le_pow_right (by decide) hv.f
  omega
/-- the weight of a set of worlds -/
def wsN (v : eV) (S : Int64) (n : Nat) : Nat := smN (fun w => if tb S w = true then wgN v w (nF v) else 0) n
theorem wsN_s (v : eV) (S : Int64) (n : Nat) : wsN v S (n + 1) = wsN v S n + (if tb S n = true then wgN v n (nF v) else 0) := rfl
theorem wsN_le {v : eV} (hv : Va v) (S : Int64) (n : Nat) : wsN v S n ≤ n * 1000000 := smN_le (fun k => by
  have := wgN_6 hv k
  by_cases z : tb S k = true
  · rw [if_pos z]; exact this
  · rw [if_neg z]; omega) n
def odA (v : eV) (f : Nat) : Nat := wsN v (canV v &&& mk fun w => w.testBit f) (2 ^ nF v)
def odT (v : eV) : Nat := wsN v (canV v) (2 ^ nF v)
def sp_odds (v : eV) (f w : Int32) : Int64 := if inN f (nF v) = true then (if inN w 2 = true then (if odT v = 0 then -1 else nJ ((if w = 0 then odA v f.toNatClampNeg else odT v) / Nat.gcd (odA v f.toNatClampNeg) (odT v))) else -1) else -1
theorem W_64 {v : eV} (hv : Va v) : 2 ^ nF v ≤ 64 := Nat.pow_le_pow_right (n := 2) (j := 6) (by decide) hv.f
theorem odT_le {v : eV} (hv : Va v) : odT v ≤ 64000000 := by
  have h1 := wsN_le hv (canV v) (2 ^ nF v)
  have h2 := W_64 hv
  unfold odT
  omega
theorem odA_le {v : eV} (hv : Va v) (f : Nat) : odA v f ≤ 64000000 := by
  have h1 := wsN_le hv (canV v &&& mk fun w => w.testBit f) (2 ^ nF v)
  have h2 := W_64 hv
  unfold odA
  omega
theorem bb_1n {b : Bool} {A B : oX} : (if ¬ bb b = 1 then A else B) = if b = true then B else A := by cases b <;> rfl
/-! the reference -/
theorem Mo_lowest_2 (d : Nat) {a b : Nat} (x4 : Int32) (m : eM) (ha : a < 2 ^ 63) (hb : b < 2 ^ 63) (hp : 0 < b) : Mo_lowest d (nJ a) (nJ b) x4 m = yL (nJ ((if x4 = 0 then a else b) / Nat.gcd a b)) m := by
  have hg : Nat.gcd a b ≤ b := Nat.gcd_le_right a hp
  rw [Mo_lowest_e, Mo_lowest_6_s d _ _ x4 m b a b eU (Nat.le_refl _) ha hb (Or.inr hp)]
  by_cases z : x4 = 0
  · rw [if_pos z, if_pos z, nJ_div ha (by omega)]
  · rw [if_neg z, if_neg z, nJ_div hb (by omega)]
theorem Mo_weight_5_s {v : eV} (hv : Va v) {m : eM} (h : Mp v m) (d : Nat) {w : Nat} (hw : w < 64) : ∀ j k, k + j = nF v → Mo_weight_5 d 208 (nI w) (nJ (wgN v w k)) (nI k) m = yL (nJ (wgN v w (nF v))) m
  | 0, k, e => by
    have hs := h.sk
    have hnF := hv.f
    rw [Mo_weight_5_e _ _ _ _ _ _ kd_208]
    simp (disch := first | assumption | omega) only [bR_s, rf_208_10, gz_210, n_cl0, mp_f, n_le]
    rw [if_pos (by omega), show nF v = k by omega]
  | j + 1, k, e => by
    have hs := h.sk
    have hnF := hv.f
    have hc := hv.ch (show k < nF v by omega)
    have ih := Mo_weight_5_s hv h d hw j (k + 1) (by omega)
    have es : wgN v w (k + 1) = wgN v w k * (if w.testBit k = true then cha v k else 10 - cha v k) := rfl
    rw [Mo_weight_5_e _ _ _ _ _ _ kd_208]
    simp (disch := first | assumption | omega) only [bR_s, rf_208_10, gz_210, n_cl0, mp_f, n_le]
    rw [if_neg (by omega), bitI (by omega) (by omega), bb_1n, rf_208_12 hs, bR_s, bR_s, ga_212 (by omega), ga_212 (by omega), n_cl (by omega), mp_cha h (by omega), lL_u, lL_u, l_10, pk_sub hc, nI_J (by omega), nI_J (by omega), nJ_mul, nJ_mul, nI_1, ← ih, es]
    by_cases z : w.testBit k = true
    · rw [if_pos z, if_pos z]
    · rw [if_neg z, if_neg z]
theorem Mo_weight_s {v : eV} (hv : Va v) {m : eM} (h : Mp v m) (d : Nat) {w : Nat} (hw : w < 64) : Mo_weight d 208 (nI w) m = yL (nJ (wgN v w (nF v))) m := by
  rw [Mo_weight_e _ _ _ _ kd_208]
  exact Mo_weight_5_s hv h d hw (nF v) 0 (by omega)
theorem bbJ (b : Bool) (x : Nat) : (bb b).toInt64 * nJ x = nJ (if b = true then x else 0) := by
  cases b
  · rw [if_neg (by decide)]
    have : (bb false).toInt64 = nJ 0 := by decide
    rw [this, nJ_mul, Nat.zero_mul]
  · rw [if_pos rfl]
    have : (bb true).toInt64 = nJ 1 := by decide
    rw [this, nJ_mul, Nat.one_mul]
theorem Mo_odds_40_s {v : eV} (hv : Va v) {m : eM} (h : Mp v m) (d : Nat) {f : Nat} (hf : f < nF v) (x2 : Int32) : ∀ j w, w + j = 2 ^ nF v → Mo_odds_40 (d + 1) 208 (nI f) x2 (canV v) (nJ (wsN v (canV v &&& mk fun w => w.testBit f) w)) (nJ (wsN v (canV v) w)) (nI w) m = yL (if odT v = 0 then -1 else nJ ((if x2 = 0 then odA v f else odT v) / Nat.gcd (odA v f) (odT v))) m
  | 0, w, e => by
    have hs := h.sk
    have hnF := hv.f
    have hW := W_64 hv
    have hT := odT_le hv
    have hA := odA_le hv f
    obtain rfl : w = 2 ^ nF v := by omega
    rw [Mo_odds_40_e _ _ _ _ _ _ _ _ _ kd_208]
    simp (disch := first | assumption | omega) only [bR_s, rf_208_10, gz_210, n_cl0, mp_f, shl1, n_le]
    rw [if_pos (Nat.le_refl _)]
    show (if ¬ lg_cmp (nJ (odT v)) 0 = 0 then (bL (Mo_lowest d (nJ (odA v f)) (nJ (odT v)) x2 m) fun v3 m2 => yL v3 m2) else yL (-1) m) = _
    by_cases z : odT v = 0
    · rw [if_neg (fun q => q ((cmp0J (by omega)).mpr z)), if_pos z]
    · rw [if_pos (fun q => z ((cmp0J (by omega)).mp q)), if_neg z, Mo_lowest_2 _ _ _ (by omega) (by omega) (by omega), bL_y]
  | j + 1, w, e => by
    have hs := h.sk
    have hnF := hv.f
    have hW := W_64 hv
    have hw6 : w < 64 := by omega
    have ih := Mo_odds_40_s hv h d hf x2 j (w + 1) (by omega)
    rw [Mo_odds_40_e _ _ _ _ _ _ _ _ _ kd_208]
    simp (disch := first | assumption | omega) only [bR_s, rf_208_10, gz_210, n_cl0, mp_f, shl1, n_le]
    rw [if_neg (by omega), Mo_isIn_s _ _ hw6, br1, Mo_weight_s hv h _ hw6, bL_y, Mo_weight_s hv h _ hw6, bL_y, bitI (by omega) (by omega), bbJ, lL_u, nJ_add, nJ_add, nI_1, ← ih, wsN_s, wsN_s, t_and, t_mk _ hw6]
    by_cases z : tb (canV v) w = true
    · rw [if_pos z, if_pos z, z, Bool.true_and]
    · rw [if_neg z, if_neg z]
      rw [Bool.not_eq_true] at z
      rw [z, Bool.false_and, if_neg (by decide)]
      rfl
theorem Mo_odds_s {v : eV} (hv : Va v) {D : Nat} (hD : 6 ≤ D) {m : eM} (h : Mp v m) (f w : Int32) : ∃ m', Fr sQ m m' ∧ Mo_odds D 208 f w m = yL (sp_odds v f w) m' := by
  obtain ⟨d, rfl⟩ : ∃ d, D = d + 6 := ⟨D - 6, by omega⟩
  have h0 := th0 h
  have hnF := hv.f
  rw [Mo_odds_e _ _ _ _ _ kd_208, mI_u, Mo_isFact_s h0 h0.sk, br0, Mo_within_1, br1]
  unfold sp_odds
  by_cases z1 : inN f (nF v) = true
  · rw [if_pos z1, if_pos z1]
    by_cases z2 : inN w 2 = true
    · rw [if_pos z2, if_pos z2]
      obtain ⟨k, hk, rfl⟩ := inN_of (by omega) z1
      obtain ⟨m1, f1, e1, -, -⟩ := Mo_canBe_s hv (show 5 ≤ d + 5 by omega) h0
      refine ⟨m1, f0.tr f1, ?_⟩
      rw [e1, bL_y, n_cl (by omega)]
      exact Mo_odds_40_s hv (h0.q f1) (d + 5) hk w (2 ^ nF v) 0 (by omega)
    · rw [if_neg z2, if_neg z2]
      exact ⟨_, f0, rfl⟩
  · rw [if_neg z1, if_neg z1]
    exact ⟨_, f0, rfl⟩
/-! the class -/
theorem Pa_weightOf_5_s {v : eV} (hv : Va v) {p : Nat} {m : eM} (h : Pp v p m) (d : Nat) {w : Nat} (hw : w < 64) : ∀ j k, k + j = nF v → Pa_weightOf_5 d p (nI w) (nJ (wgN v w k)) (nI k) m = yL (nJ (wgN v w (nF v))) m
  | 0, k, e => by
    have hnF := hv.f
    rw [Pa_weightOf_5_e _ _ _ _ _ _ h.kd, h.2.2.1.1, if_pos (by rw [n_le (by omega) (by omega)]; omega), show nF v = k by omega]
  | j + 1, k, e => by
    have hnF := hv.f
    have hc := hv.ch (show k < nF v by omega)
    have ih := Pa_weightOf_5_s hv h d hw j (k + 1) (by omega)
    have es : wgN v w (k + 1) = wgN v w k * (if w.testBit k = true then cha v k else 10 - cha v k) := rfl
    have hkd := h.kd
    obtain ⟨⟨h0, k0, k1, k2, k3, k4, k5, k6, k7, k8, k9, k10, k11⟩, ⟨r4, r5, r6, r7, r8, r9, r10, r11, r12, r13, r14⟩, ⟨c0, c1, c2, c3⟩, hfa, -⟩ := h
    rw [Pa_weightOf_5_e _ _ _ _ _ _ hkd, c0, if_neg (by rw [n_le (by omega) (by omega)]; omega), r5, bR_s, bR_s, bR_s, pk_gl k2 (by decide), pk_len k2 (by omega : 0 < p), toI, if_neg (by rw [n_le (by omega) (by omega)]; omega), bitI (by omega) (by omega), bb_1n, pk_ga k2 (by omega) (by omega) (by decide), pk_ga k2 (by omega) (by omega) (by decide), n_cl (by omega), (hfa k (by omega)).2, lL_u, lL_u, l_10, pk_sub hc, nI_J (by omega), nI_J (by omega), nJ_mul, nJ_mul, nI_1, ← ih, es]
    by_cases z : w.testBit k = true
    · rw [if_pos z, if_pos z]
    · rw [if_neg z, if_neg z]
theorem Pa_weightOf_s {v : eV} (hv : Va v) {p : Nat} {m : eM} (h : Pp v p m) (d : Nat) {w : Nat} (hw : w < 64) : Pa_weightOf d p (nI w) m = yL (nJ (wgN v w (nF v))) m := by
  rw [Pa_weightOf_e _ _ _ _ h.kd]
  exact Pa_weightOf_5_s hv h d hw (nF v) 0 (by omega)
theorem Pa_weight_5_s {v : eV} (hv : Va v) {p : Nat} {m : eM} (h : Pp v p m) (d : Nat) (S : Int64) : ∀ j w, w + j = 2 ^ nF v → Pa_weight_5 (d + 1) p S (nJ (wsN v S w)) (nI w) m = yL (nJ (wsN v S (2 ^ nF v))) m
  | 0, w, e => by
    have hnF := hv.f
    have hW := W_64 hv
    rw [Pa_weight_5_e _ _ _ _ _ _ h.kd, h.2.2.1.1, shl1 _ (by omega), if_pos (by rw [n_le (by omega) (by omega)]; omega), show 2 ^ nF v = w by omega]
  | j + 1, w, e => by
    have hnF := hv.f
    have hW := W_64 hv
    have hw6 : w < 64 := by omega
    have ih := Pa_weight_5_s hv h d S j (w + 1) (by omega)
    rw [Pa_weight_5_e _ _ _ _ _ _ h.kd, h.2.2.1.1, shl1 _ (by omega), if_neg (by rw [n_le (by omega) (by omega)]; omega), LC_holds_s _ _ hw6, br0, Pa_weightOf_s hv h _ hw6, bL_y, nJ_add, nI_1, ← ih, wsN_s]
    by_cases z : tb S w = true
    · rw [if_pos z, if_pos z]
    · rw [if_neg z, if_neg z]; rfl
theorem Pa_weight_s {v : eV} (hv : Va v) {p : Nat} {m : eM} (h : Pp v p m) {D : Nat} (hD : 1 ≤ D) (S : Int64) : Pa_weight D p S m = yL (nJ (wsN v S (2 ^ nF v))) m := by
  obtain ⟨d, rfl⟩ : ∃ d, D = d + 1 := ⟨D - 1, by omega⟩
  rw [Pa_weight_e _ _ _ _ h.kd]
  exact Pa_weight_5_s hv h d S (2 ^ nF v) 0 (by omega)
theorem lMax_J {g : Nat} (h1 : 1 ≤ g) (h2 : g < 2 ^ 63) : lMax (1 : Int64) (nJ g) = nJ g := by
  unfold lMax
  by_cases z : g = 1
  · subst z; split <;> rfl
  · have key : (1 : Int64) < nJ g := (Int64.ofNat_lt_iff_lt (a := 1) (b := g) (by decide) h2).mpr (by omega)
    first
      | (rw [if_pos key])
      | (rw [if_neg (fun q => Int64.lt_asymm key q)])
      | (rw [if_neg (fun q => Int64.lt_irrefl (Int64.lt_of_lt_of_le key q))])
theorem LC_odds_s {v : eV} (hv : Va v) {p : Nat} {m : eM} (h : Cn v p m) {D : Nat} (hD : 5 ≤ D) (f w : Int32) : ∃ m', Fr sK m m' ∧ LC_odds D 3 f w m = yL (sp_odds v f w) m' := by
  obtain ⟨d, rfl⟩ : ∃ d, D = d + 5 := ⟨D - 5, by omega⟩
  have hs := h.sk
  have hnF := hv.f
  rw [LC_odds_e _ _ _ _ _ kd_3, rf_3_2 hs, bR_s, gd9, h.r0, bR_s, h.gp, Pa_isFact_s h.p, br0, LC_isWhat_s, br1]
  unfold sp_odds
  by_cases z1 : inN f (nF v) = true
  · rw [if_pos z1, if_pos z1]
    by_cases z2 : inN w 2 = true
    · rw [if_pos z2, if_pos z2]
      obtain ⟨k, hk, rfl⟩ := inN_of (by omega) z1
      obtain ⟨m1, f1, e1⟩ := LC_possible_s hv h (show 4 ≤ d + 4 by omega)
      have h1 := h.q (sA_K f1)
      have hs1 := h1.sk
      refine ⟨m1, sA_K f1, ?_⟩
      have hT := odT_le hv
      have hA := odA_le hv k
      have eT : nJ (wsN v (canV v) (2 ^ nF v)) = nJ (odT v) := rfl
      have eA : nJ (wsN v (canV v &&& mk fun w => w.testBit k) (2 ^ nF v)) = nJ (odA v k) := rfl
      rw [e1, bL_y, rf_3_2 hs1, bR_s, gd9, h1.r0, bR_s, h1.gp, Pa_weight_s hv h1.p (by omega), bL_y, eT, rf_3_2 hs1, bR_s, gd9, h1.r0, bR_s, LC_factSo_s h1.ss _ (by omega), bL_y, h1.gp, Pa_weight_s hv h1.p (by omega), bL_y, eA, LC_greatestDivisor_s _ _ (by omega) (by omega), bL_y, n_cl (by omega)]
      by_cases z : odT v = 0
      · rw [if_neg (fun q => q ((cmp0J (by omega)).mpr z)), if_pos z]
      · have g1 : 1 ≤ Nat.gcd (odT v) (odA v k) := Nat.gcd_pos_of_pos_left _ (by omega)
        have g2 : Nat.gcd (odT v) (odA v k) ≤ odT v := Nat.gcd_le_left _ (by omega)
        have gn : ¬ nJ (Nat.gcd (odT v) (odA v k)) = 0 := fun q => by
          have := (nJ_0 (by omega)).mp q
          omega
        rw [if_pos (fun q => z ((cmp0J (by omega)).mp q)), if_neg z, lMax_J g1 (by omega), if_neg gn, if_neg gn, nJ_div (by omega) (by omega), nJ_div (by omega) (by omega), Nat.gcd_comm (odA v k)]
        by_cases y : w = 0
        · rw [if_neg (fun q => q y), if_pos y]
        · rw [if_pos y, if_neg y]
    · rw [if_neg z2, if_neg z2]
      exact ⟨_, Fr.rfl', rfl⟩
  · rw [if_neg z1, if_neg z1]
    exact ⟨_, Fr.rfl', rfl⟩
