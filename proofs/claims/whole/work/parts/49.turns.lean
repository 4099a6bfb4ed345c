/-! ===== TURNED, POINTED, ROUND ===== -/
def tuV (v : eV) (c mn : Nat) : Nat := smN (fun m => if prv v c m ≠ pP v c m then 1 else 0) (mn + 1)
def apa (a b : Nat) : Nat := min (a - b + (b - a)) (360 - (a - b + (b - a)))
def roV (v : eV) (c mn : Nat) : Nat := smN (fun m => apa (beN v (pP v c m)) (beN v (prv v c m))) (mn + 1)
def qN (x : Int32) : Nat := if x = -1 then 6 else x.toNatClampNeg
def sp_turned (v : eV) (c mn : Int32) : Int32 := if thr v c = true then (if inN mn 1440 = true then nI (tuV v c.toNatClampNeg mn.toNatClampNeg) else -1) else -1
def sp_round (v : eV) (c mn : Int32) : Int32 := if thr v c = true then (if inN mn 1440 = true then nI (roV v c.toNatClampNeg mn.toNatClampNeg) else -1) else -1
def perQ (v : eV) (x : Int32) : Bool := decide (x = -1) || inN x (nP v)
def sp_pointed (v : eV) (c q a b : Int32) : Int32 := if (spS v c a b && perQ v q) = true then nI (poiV v c.toNatClampNeg (qN q) a.toNatClampNeg (b.toNatClampNeg + 1)) else -1
theorem perQ_of {v : eV} (hv : Va v) {x : Int32} (h : perQ v x = true) : qN x < 7 ∧ x = pI (qN x) := by
  have hp := hv.p
  unfold perQ at h
  rw [Bool.or_eq_true, decide_eq_true_iff] at h
  unfold qN pI
  by_cases z : x = -1
  · rw [if_pos z, if_pos rfl]; exact ⟨by decide, z⟩
  · rw [if_neg z]
    obtain ⟨k, hk, rfl⟩ := inN_of (by omega) (h.resolve_left z)
    rw [n_cl (by omega), if_neg (by omega)]
    exact ⟨by omega, rfl⟩
theorem prv_lt {v : eV} (hv : Va v) (c m : Nat) : prv v c m < 7 := by
  unfold prv
  split
  · decide
  · exact pP_lt hv _ _
theorem prv_be {v : eV} (hv : Va v) (c m : Nat) : beN v (prv v c m) < 360 := by
  unfold prv
  split
  · unfold beN; rw [if_pos rfl]; decide
  · exact be_lt hv (pt0_le hv)
theorem apa_le (a b : Nat) : apa a b ≤ 180 := by unfold apa; omega
theorem apa_c (a b : Nat) : apa a b = apa b a := by unfold apa; omega
theorem smN_le {f : Nat → Nat} {B : Nat} (h : ∀ k, f k ≤ B) : ∀ n, smN f n ≤ n * B
  | 0 => by show 0 ≤ _; omega
  | n + 1 => by
    have := smN_le h n
    have := h n
    show smN f n + f n ≤ _
    rw [Nat.succ_mul]
    omega
theorem iMin_n {a b : Nat} (ha : a < 2147483648) (hb : b < 2147483648) : iMin (nI a) (nI b) = nI (min a b) := by
  unfold iMin
  by_cases z : b < a
  · rw [if_pos (by rw [n_lt hb ha]; exact z), show min a b = b by omega]
  · rw [if_neg (by rw [n_lt hb ha]; exact z), show min a b = a by omega]
theorem Mo_apart_s {D : Nat} (hD : 1 ≤ D) {a b : Nat} (ha : a < 360) (hb : b < 360) (m : eM) : Mo_apart D (nI a) (nI b) m = yI (nI (apa a b)) m := by
  obtain ⟨d, rfl⟩ : ∃ d, D = d + 1 := ⟨D - 1, by omega⟩
  rw [Mo_apart_e, l_360]
  unfold apa
  by_cases z : b ≤ a
  · rw [if_pos (by rw [n_le (by omega) (by omega)]; exact z), pk_sub z, pk_sub (by omega), iMin_n (by omega) (by omega), show a - b + (b - a) = a - b by omega]
  · rw [if_neg (by rw [n_le (by omega) (by omega)]; exact z), pk_sub (by omega), pk_sub (by omega), iMin_n (by omega) (by omega), show a - b + (b - a) = b - a by omega]
theorem LC_shorterWay_s {D : Nat} (hD : 1 ≤ D) {a b : Nat} (ha : a < 360) (hb : b < 360) (m : eM) : LC_shorterWay D (nI a) (nI b) m = yI (nI (apa a b)) m := by
  obtain ⟨d, rfl⟩ : ∃ d, D = d + 1 := ⟨D - 1, by omega⟩
  have e : iAbs (nI a - nI b) = nI (a - b + (b - a)) := by
    unfold iAbs
    have h0 : (0 : Int32).toInt = 0 := by decide
    by_cases z : b ≤ a
    · rw [pk_sub z, if_pos (nI_pos' (by omega)), show a - b + (b - a) = a - b by omega]
    · rw [if_neg (by rw [Int32.le_iff_toInt_le, pk_sub_toInt (by omega) (by omega)]; omega), show a - b + (b - a) = b - a by omega, ← pk_sub (show a ≤ b by omega), Int32.sub_eq_add_neg, Int32.sub_eq_add_neg, Int32.zero_add, Int32.neg_add, Int32.sub_eq_add_neg, Int32.neg_neg, Int32.sub_eq_add_neg, Int32.add_comm]
  rw [LC_shorterWay_e, e, l_360, pk_sub (by omega), iMin_n (by omega) (by omega)]
  rfl
/-! the reference -/
theorem Mo_pt_s {v : eV} (hv : Va v) {m : eM} (h : Mp v m) (hr : Rw v (fun i => i) (nS v) m) {D : Nat} (hD : 1 ≤ D) {c k : Nat} (hc : c < 2) (hk : k < 2000) : Mo_pointsTo D 208 (nI c) (nI k) (gI m 208 44) m = yI (pI (pP v c k)) m := by
  have htr := hv.tr
  have hW := W_le hv
  rw [mp_t h]
  exact Mo_pointsTo_s hv h hr hD hc hk (by omega)
theorem Mo_turned_35_s {v : eV} (hv : Va v) {m : eM} (h : Mp v m) (hr : Rw v (fun i => i) (nS v) m) (d : Nat) {c mn : Nat} (hc : c < 2) (hm : mn < 1440) : ∀ j k w, k + j = mn + 1 → Mo_turned_35 (d + 2) 208 (nI c) (nI mn) (nI (smN (fun m => if prv v c m ≠ pP v c m then 1 else 0) k)) (pI (prv v c k)) (nI k) w m = yI (nI (tuV v c mn)) m
  | 0, k, w, e => by
    rw [Mo_turned_35_e _ _ _ _ _ _ _ _ _ kd_208, if_pos (by rw [n_lt (by omega) (by omega)]; omega)]
    unfold tuV
    rw [show mn + 1 = k by omega]
  | j + 1, k, w, e => by
    have h1 := pP_lt hv c k
    have h2 := prv_lt hv c k
    have ih := Mo_turned_35_s hv h hr d hc hm j (k + 1) (.int (pI (pP v c k))) (by omega)
    have es : smN (fun m => if prv v c m ≠ pP v c m then 1 else 0) (k + 1) = smN (fun m => if prv v c m ≠ pP v c m then 1 else 0) k + (if prv v c k ≠ pP v c k then 1 else 0) := rfl
    have ep : prv v c (k + 1) = pP v c k := by unfold prv; rw [if_neg (by omega)]; rfl
    rw [Mo_turned_35_e _ _ _ _ _ _ _ _ _ kd_208, if_neg (by rw [n_lt (by omega) (by omega)]; omega), Mo_pt_s hv h hr (by omega) hc (by omega), bI_y, nI_1, nI_1, ← ih, es, ep]
    by_cases z : pP v c k = prv v c k
    · rw [if_pos (by rw [z]), if_neg (fun q => q z.symm), show (0 : Int32) = nI 0 from rfl, nI_add]
    · rw [if_neg (fun q => z ((pI_i h1 h2).mp q)), if_pos (fun q => z q.symm)]
theorem Mo_turned_s {v : eV} (hv : Va v) {D : Nat} (hD : 5 ≤ D) {m : eM} (h : Mp v m) (c mn : Int32) : ∃ m', Fr sQ m m' ∧ Mo_turned D 208 c mn m = yI (sp_turned v c mn) m' := by
  obtain ⟨d, rfl⟩ : ∃ d, D = d + 5 := ⟨D - 5, by omega⟩
  have h0 := th0 h
  rw [Mo_turned_e _ _ _ _ _ kd_208, mI_u, Mo_isThere_s hv h0 h0.sk, br0, Mo_isMinute_s, br1]
  unfold sp_turned
  by_cases z1 : thr v c = true
  · rw [if_pos z1, if_pos z1]
    by_cases z2 : inN mn 1440 = true
    · rw [if_pos z2, if_pos z2]
      obtain ⟨m1, f1, e1, r1⟩ := Mo_rows_0 hv (show 4 ≤ d + 4 by omega) h0
      obtain ⟨k1, hk1, rfl, -⟩ := thr_of z1
      obtain ⟨k2, hk2, rfl⟩ := inN_of (by decide) z2
      refine ⟨m1, f0.tr f1, ?_⟩
      rw [e1, bV_y, n_cl (by omega), n_cl (by omega)]
      exact Mo_turned_35_s hv (h0.q f1) r1 (d + 3) hk1 hk2 (k2 + 1) 0 eU (by omega)
    · rw [if_neg z2, if_neg z2]
      exact ⟨_, f0, rfl⟩
  · rw [if_neg z1, if_neg z1]
    exact ⟨_, f0, rfl⟩
theorem Mo_round_35_s {v : eV} (hv : Va v) {m : eM} (h : Mp v m) (hr : Rw v (fun i => i) (nS v) m) (d : Nat) {c mn : Nat} (hc : c < 2) (hm : mn < 1440) : ∀ j k w, k + j = mn + 1 → Mo_round_35 (d + 3) 208 (nI c) (nI mn) (nI (smN (fun m => apa (beN v (pP v c m)) (beN v (prv v c m))) k)) (nI (beN v (prv v c k))) (nI k) w m = yI (nI (roV v c mn)) m
  | 0, k, w, e => by
    rw [Mo_round_35_e _ _ _ _ _ _ _ _ _ kd_208, if_pos (by rw [n_lt (by omega) (by omega)]; omega)]
    unfold roV
    rw [show mn + 1 = k by omega]
  | j + 1, k, w, e => by
    have htr := hv.tr
    have hW := W_le hv
    have h1 : beN v (pP v c k) < 360 := be_lt hv (pt0_le hv)
    have h2 := prv_be hv c k
    have ih := Mo_round_35_s hv h hr d hc hm j (k + 1) (.int (nI (beN v (pP v c k)))) (by omega)
    have es : smN (fun m => apa (beN v (pP v c m)) (beN v (prv v c m))) (k + 1) = smN (fun m => apa (beN v (pP v c m)) (beN v (prv v c m))) k + apa (beN v (pP v c k)) (beN v (prv v c k)) := rfl
    have ep : prv v c (k + 1) = pP v c k := by unfold prv; rw [if_neg (by omega)]; rfl
    have eb : Mo_bearingAt (d + 2) 208 (nI c) (nI k) (nI (tru v)) m = yI (nI (beN v (pP v c k))) m := Mo_bearingAt_s hv h hr (by omega) hc (by omega) (by omega)
    rw [Mo_round_35_e _ _ _ _ _ _ _ _ _ kd_208, if_neg (by rw [n_lt (by omega) (by omega)]; omega), mp_t h, eb, bI_y, Mo_apart_s (by omega) h1 h2, bI_y, nI_add, nI_1, ← ih, es, ep]
theorem Mo_round_s {v : eV} (hv : Va v) {D : Nat} (hD : 5 ≤ D) {m : eM} (h : Mp v m) (c mn : Int32) : ∃ m', Fr sQ m m' ∧ Mo_round D 208 c mn m = yI (sp_round v c mn) m' := by
  obtain ⟨d, rfl⟩ : ∃ d, D = d + 5 := ⟨D - 5, by omega⟩
  have h0 := th0 h
  rw [Mo_round_e _ _ _ _ _ kd_208, mI_u, Mo_isThere_s hv h0 h0.sk, br0, Mo_isMinute_s, br1]
  unfold sp_round
  by_cases z1 : thr v c = true
  · rw [if_pos z1, if_pos z1]
    by_cases z2 : inN mn 1440 = true
    · rw [if_pos z2, if_pos z2]
      obtain ⟨m1, f1, e1, r1⟩ := Mo_rows_0 hv (show 4 ≤ d + 4 by omega) h0
      obtain ⟨k1, hk1, rfl, -⟩ := thr_of z1
      obtain ⟨k2, hk2, rfl⟩ := inN_of (by decide) z2
      refine ⟨m1, f0.tr f1, ?_⟩
      rw [e1, bV_y, n_cl (by omega), n_cl (by omega)]
      exact Mo_round_35_s hv (h0.q f1) r1 (d + 2) hk1 hk2 (k2 + 1) 0 eU (by omega)
    · rw [if_neg z2, if_neg z2]
      exact ⟨_, f0, rfl⟩
  · rw [if_neg z1, if_neg z1]
    exact ⟨_, f0, rfl⟩
theorem Mo_pointed_42_s {v : eV} (hv : Va v) {m : eM} (h : Mp v m) (hr : Rw v (fun i => i) (nS v) m) (d : Nat) {c a b q : Nat} (hc : c < 2) (hb : b < 1440) (hq : q < 7) : ∀ j k, a + k + j = b + 1 → Mo_pointed_42 (d + 2) 208 (nI c) (pI q) (nI a) (nI b) (nI (cnt (fun i => decide (pP v c (a + i) = q)) k)) (nI (a + k)) m = yI (nI (poiV v c q a (b + 1))) m
  | 0, k, e => by
    rw [Mo_pointed_42_e _ _ _ _ _ _ _ _ _ kd_208, if_pos (by rw [n_lt (by omega) (by omega)]; omega)]
    unfold poiV
    rw [show b + 1 - a = k by omega]
  | j + 1, k, e => by
    have h1 := pP_lt hv c (a + k)
    have ih := Mo_pointed_42_s (a := a) hv h hr d hc hb hq j (k + 1) (by omega)
    have es : cnt (fun i => decide (pP v c (a + i) = q)) (k + 1) = cnt (fun i => decide (pP v c (a + i) = q)) k + (if decide (pP v c (a + k) = q) = true then 1 else 0) := rfl
    rw [Mo_pointed_42_e _ _ _ _ _ _ _ _ _ kd_208, if_neg (by rw [n_lt (by omega) (by omega)]; omega), Mo_pt_s hv h hr (by omega) hc (by omega), bI_y, nI_1, nI_1, ← ih, es]
    by_cases z : pP v c (a + k) = q
    · rw [if_neg (fun y => y (by rw [z])), if_pos (decide_eq_true z)]; rfl
    · rw [if_pos (fun y => z ((pI_i h1 hq).mp y)), if_neg (by rw [decide_eq_false z]; decide), show (0 : Int32) = nI 0 from rfl, nI_add]; rfl
theorem Mo_pointed_s {v : eV} (hv : Va v) {D : Nat} (hD : 5 ≤ D) {m : eM} (h : Mp v m) (c q a b : Int32) : ∃ m', Fr sQ m m' ∧ Mo_pointed D 208 c q a b m = yI (sp_pointed v c q a b) m' := by
  obtain ⟨d, rfl⟩ : ∃ d, D = d + 5 := ⟨D - 5, by omega⟩
  have h0 := th0 h
  obtain ⟨m1, f1, e1, r1⟩ := Mo_rows_0 hv (show 4 ≤ d + 4 by omega) h0
  have e0 : Mo_pointed (d + 5) 208 c q a b m = if (spS v c a b && perQ v q) = true then Mo_pointed_42 (d + 5) 208 c q a b 0 a m1 else yI (-1) (sI m 208 0 0) := by
    rw [Mo_pointed_e _ _ _ _ _ _ _ kd_208, mI_u, Mo_isSpan_s hv h0 (by omega), br0, Mo_isPerson_s h0 h0.sk, br1, e1, bV_y]
    unfold perQ
    cases spS v c a b
    · rfl
    · by_cases z : q = -1
      · rw [if_pos rfl, if_pos z, decide_eq_true z]; rfl
      · rw [if_pos rfl, if_neg z, decide_eq_false z]; rfl
  rw [e0]
  unfold sp_pointed
  by_cases z : (spS v c a b && perQ v q) = true
  · rw [if_pos z, if_pos z]
    rw [Bool.and_eq_true] at z
    obtain ⟨k, i, j, hk, hi, hj, hij, rfl, rfl, rfl⟩ := spS_of z.1
    obtain ⟨q1, q2⟩ := perQ_of hv z.2
    refine ⟨m1, f0.tr f1, ?_⟩
    rw [n_cl (by omega), n_cl (by omega), n_cl (by omega)]
    have := Mo_pointed_42_s hv (h0.q f1) r1 (d + 3) (c := k) (a := i) hk hj q1 (j + 1 - i) 0 (by omega)
    rw [← q2] at this
    exact this
  · rw [if_neg z, if_neg z]
    exact ⟨_, f0, rfl⟩
/-! the class -/
theorem Pa_bearing_q {v : eV} (hv : Va v) {p : Nat} {m : eM} (h : Pp v p m) (d : Nat) {q : Nat} (hq : q = 6 ∨ q < nP v) : Pa_bearing d p (pI q) m = yI (nI (beN v q)) m := by
  have hp := hv.p
  by_cases z : q = 6
  · subst z
    rw [Pa_bearing_e _ _ _ _ h.kd]
    show (if (-1 : Int32) < 0 then _ else _) = yI (nI (if 6 = 6 then 0 else _)) m
    rw [if_pos (by decide), if_pos rfl]
    rfl
  · unfold pI
    rw [if_neg z, Pa_bearing_p hv h d (by omega), peB_be hv hq]
theorem CQ_q {v : eV} (hv : Va v) {c : Nat} {S Q : Nat → Nat} {N : Nat} (h : CQ v c (nS v) S Q N) {k : Nat} (hk : k < N) : Q k = 6 ∨ Q k < nP v := by
  by_cases z : k = 0
  · subst z; exact Or.inl h.1.2.2.2
  · obtain ⟨j, -, -, q⟩ := h.2.2.2.1 k (by omega) hk
    rw [q]
    exact pt0_le hv
theorem Co_degrees_5_s {v : eV} (hv : Va v) {p t : Nat} {S Q : Nat → Nat} {N : Nat} {m : eM} (h : CoP t S Q N m) {c : Nat} (hq : CQ v c (nS v) S Q N) (hP : Pp v p m) (d : Nat) {mn : Nat} (hm : mn < 2000) : ∀ j k w, 1 ≤ k → k + j = N → Co_degrees_5 (d + 2) t p (nI mn) (nI (smN (fun i => if 1 ≤ i ∧ S i ≤ mn then apa (beN v (Q i)) (beN v (Q (i - 1))) else 0) k)) (nI k) w m = yI (nI (smN (fun i => if 1 ≤ i ∧ S i ≤ mn then apa (beN v (Q i)) (beN v (Q (i - 1))) else 0) N)) m
  | 0, k, w, h1, e => by
    have hN := h.2.2.2.1
    rw [Co_degrees_5_e _ _ _ _ _ _ _ _ h.kd hP.kd, h.2.2.1, if_pos (by rw [n_le (by omega) (by omega)]; omega), show N = k by omega]
  | j + 1, k, w, h1, e => by
    have hN := h.2.2.2.1
    have hS := (h.2.2.2.2 k (by omega)).2.2.1
    have q1 := CQ_q hv hq (show k - 1 < N by omega)
    have q2 := CQ_q hv hq (show k < N by omega)
    have es : smN (fun i => if 1 ≤ i ∧ S i ≤ mn then apa (beN v (Q i)) (beN v (Q (i - 1))) else 0) (k + 1) = smN (fun i => if 1 ≤ i ∧ S i ≤ mn then apa (beN v (Q i)) (beN v (Q (i - 1))) else 0) k + (if 1 ≤ k ∧ S k ≤ mn then apa (beN v (Q k)) (beN v (Q (k - 1))) else 0) := rfl
    have ih := Co_degrees_5_s hv h hq hP d hm j (k + 1) (.int (nI (apa (beN v (Q (k - 1))) (beN v (Q k))))) (by omega) (by omega)
    rw [Co_degrees_5_e _ _ _ _ _ _ _ _ h.kd hP.kd, h.2.2.1, if_neg (by rw [n_le (by omega) (by omega)]; omega), n_s1 (by omega), Co_whom_s h _ (by omega), bI_y, Pa_bearing_q hv hP _ q1, bI_y, Co_whom_s h _ (by omega), bI_y, Pa_bearing_q hv hP _ q2, bI_y, LC_shorterWay_s (by omega) (be_lt hv q1) (be_lt hv q2), bI_y, Co_start_s h _ (by omega), bI_y, nI_1, show eS S N k = S k from if_pos (by omega), nI_add, ← ih, es]
    by_cases z : S k ≤ mn
    · rw [if_neg (by rw [n_lt (by omega) (by omega)]; omega), if_pos ⟨h1, z⟩, apa_c (beN v (Q k))]
    · rw [if_pos (by rw [n_lt (by omega) (by omega)]; omega), if_neg (fun y => z y.2), show (0 : Int32) = nI 0 from rfl, nI_add]
theorem sc_K {t : Nat} (ht : t = 55 ∨ t = 58) {m m' : eM} (f : Fr (sTc t) m m') : Fr sK m m' := f.up fun a k q => sTc_n (by
  have : ¬ (46 ≤ a ∧ a ≤ 67) := of_decide_eq_false q
  omega)
theorem LC_turned_s {v : eV} (hv : Va v) {p : Nat} {m : eM} (h : Cn v p m) {D : Nat} (hD : 4 ≤ D) (c mn : Int32) : ∃ m', Fr sK m m' ∧ LC_turned D 3 c mn m = yI (sp_turned v c mn) m' := by
  obtain ⟨d, rfl⟩ : ∃ d, D = d + 4 := ⟨D - 4, by omega⟩
  have hs := h.sk
  rw [LC_turned_e _ _ _ _ _ kd_3, rf_3_2 hs, bR_s, gd9, h.r0, bR_s, h.gp, Pa_isThere_s hv h.p (by omega), br0, LC_isMinute_s, br1]
  unfold sp_turned
  by_cases z1 : thr v c = true
  · rw [if_pos z1, if_pos z1]
    by_cases z2 : inN mn 1440 = true
    · rw [if_pos z2, if_pos z2]
      obtain ⟨k1, hk1, rfl, -⟩ := thr_of z1
      obtain ⟨k2, hk2, rfl⟩ := inN_of (by decide) z2
      obtain ⟨m1, S, Q, N, f1, e1, h1, h2⟩ := Co_follow_s hv (t := 55) (Or.inl rfl) (show 3 ≤ d + 3 by omega) hk1 h
      have hs1 := (h.q (sc_K (Or.inl rfl) f1)).sk
      refine ⟨m1, sc_K (Or.inl rfl) f1, ?_⟩
      have hN := h2.1.1
      have et := Co_turns_4_s h1 (d + 2) (show k2 < 2000 by omega) (N - 1) 1 (by omega) (by omega)
      have e0 : smN (fun i => if 1 ≤ i ∧ S i ≤ k2 then 1 else 0) 1 = 0 := by
        show 0 + (if 1 ≤ 0 ∧ S 0 ≤ k2 then 1 else 0) = 0
        rw [if_neg (by omega)]
      rw [e0] at et
      have et : Co_turns_4 (d + 3) 55 (nI k2) (0 : Int32) (1 : Int32) m1 = _ := et
      rw [rf_3_7 hs, bR_s, rf_3_2 hs, bR_s, gd55, e1, bV_y, rf_3_7 hs1, bR_s, gd55, Co_turns_e _ _ _ _ kd_55, et, bI_y, n_cl (by omega), n_cl (by omega)]
      unfold tuV
      rw [sum_turns_all h2 (fun x y => if x ≠ y then 1 else 0) (fun x => if_neg (fun q => q rfl)) hk2]
      refine congrArg (fun z => yI (nI z) m1) (smN_c fun i hi => ?_)
      by_cases y : 1 ≤ i ∧ S i ≤ k2
      · rw [if_pos y, if_pos y, if_pos]
        have := h2.2.2.1 (i - 1) (by omega)
        rwa [show i - 1 + 1 = i by omega] at this
      · rw [if_neg y, if_neg y]
    · rw [if_neg z2, if_neg z2]
      exact ⟨_, Fr.rfl', rfl⟩
  · rw [if_neg z1, if_neg z1]
    exact ⟨_, Fr.rfl', rfl⟩
theorem LC_round_s {v : eV} (hv : Va v) {p : Nat} {m : eM} (h : Cn v p m) {D : Nat} (hD : 4 ≤ D) (c mn : Int32) : ∃ m', Fr sK m m' ∧ LC_round D 3 c mn m = yI (sp_round v c mn) m' := by
  obtain ⟨d, rfl⟩ : ∃ d, D = d + 4 := ⟨D - 4, by omega⟩
  have hs := h.sk
  rw [LC_round_e _ _ _ _ _ kd_3, rf_3_2 hs, bR_s, gd9, h.r0, bR_s, h.gp, Pa_isThere_s hv h.p (by omega), br0, LC_isMinute_s, br1]
  unfold sp_round
  by_cases z1 : thr v c = true
  · rw [if_pos z1, if_pos z1]
    by_cases z2 : inN mn 1440 = true
    · rw [if_pos z2, if_pos z2]
      obtain ⟨k1, hk1, rfl, -⟩ := thr_of z1
      obtain ⟨k2, hk2, rfl⟩ := inN_of (by decide) z2
      obtain ⟨m1, S, Q, N, f1, e1, h1, h2⟩ := Co_follow_s hv (t := 55) (Or.inl rfl) (show 3 ≤ d + 3 by omega) hk1 h
      have hc1 := h.q (sc_K (Or.inl rfl) f1)
      have hs1 := hc1.sk
      refine ⟨m1, sc_K (Or.inl rfl) f1, ?_⟩
      have hN := h2.1.1
      have et := Co_degrees_5_s hv h1 h2 hc1.p (d + 1) (show k2 < 2000 by omega) (N - 1) 1 eU (by omega) (by omega)
      have e0 : smN (fun i => if 1 ≤ i ∧ S i ≤ k2 then apa (beN v (Q i)) (beN v (Q (i - 1))) else 0) 1 = 0 := by
        show 0 + (if 1 ≤ 0 ∧ S 0 ≤ k2 then _ else 0) = 0
        rw [if_neg (by omega)]
      rw [e0] at et
      have et : Co_degrees_5 (d + 3) 55 p (nI k2) (0 : Int32) (1 : Int32) eU m1 = _ := et
      rw [rf_3_7 hs, bR_s, rf_3_2 hs, bR_s, gd55, e1, bV_y, rf_3_7 hs1, bR_s, rf_3_2 hs1, bR_s, gd9, hc1.r0, bR_s, gd55, Co_degrees_e _ _ _ _ _ kd_55 hc1.p.kd, et, bI_y, n_cl (by omega), n_cl (by omega)]
      unfold roV
      have hF := sum_turns_all h2 (fun x y => apa (beN v y) (beN v x)) (fun x => by show apa _ _ = 0; unfold apa; omega) hk2
      rw [hF]
    · rw [if_neg z2, if_neg z2]
      exact ⟨_, Fr.rfl', rfl⟩
  · rw [if_neg z1, if_neg z1]
    exact ⟨_, Fr.rfl', rfl⟩
theorem LC_pointed_s {v : eV} (hv : Va v) {p : Nat} {m : eM} (h : Cn v p m) {D : Nat} (hD : 4 ≤ D) (c q a b : Int32) : ∃ m', Fr sK m m' ∧ LC_pointed D 3 c q a b m = yI (sp_pointed v c q a b) m' := by
  obtain ⟨d, rfl⟩ : ∃ d, D = d + 4 := ⟨D - 4, by omega⟩
  have hs := h.sk
  have e0 : LC_pointed (d + 4) 3 c q a b m = if (spS v c a b && perQ v q) = true then (bV (Co_follow (d + 3) 55 9 c m) fun m6 => bR (gR m6 3 7) fun r7 => gd r7 1 (bI (Co_minutesAt (d + 3) r7 q a b m6) fun v10 m9 => yI v10 m9)) else yI (-1) m := by
    rw [LC_pointed_e _ _ _ _ _ _ _ kd_3, rf_3_2 hs, bR_s, gd9, h.r0, bR_s, h.gp, Pa_isThere_s hv h.p (by omega), br0, rf_3_2 hs, bR_s, gd9, h.r0, bR_s, h.gp, Pa_isPerson_s h.p, br0, LC_pointed_33_e _ _ _ _ _ _ _ kd_3, LC_isSpan_s (by omega), br1, rf_3_7 hs, bR_s, rf_3_2 hs, bR_s, gd55]
    unfold perQ spS
    cases thr v c
    · rfl
    · cases (inN a 1440 && (inN b 1440 && !decide (b < a)))
      · by_cases z : q = -1
        · rw [if_pos rfl, if_pos z]; rfl
        · rw [if_pos rfl, if_neg z]
          cases inN q (nP v) <;> rfl
      · by_cases z : q = -1
        · rw [if_pos rfl, if_pos z, decide_eq_true z]; rfl
        · rw [if_pos rfl, if_neg z, decide_eq_false z]
          cases inN q (nP v) <;> rfl
  rw [e0]
  unfold sp_pointed
  by_cases z : (spS v c a b && perQ v q) = true
  · rw [if_pos z, if_pos z]
    rw [Bool.and_eq_true] at z
    obtain ⟨k, i, j, hk, hi, hj, hij, rfl, rfl, rfl⟩ := spS_of z.1
    obtain ⟨q1, q2⟩ := perQ_of hv z.2
    obtain ⟨m1, S, Q, N, f1, e1, h1, h2⟩ := Co_follow_s hv (t := 55) (Or.inl rfl) (show 3 ≤ d + 3 by omega) hk h
    have hs1 := (h.q (sc_K (Or.inl rfl) f1)).sk
    refine ⟨m1, sc_K (Or.inl rfl) f1, ?_⟩
    have em := Co_minutesAt_s h1 (show 2 ≤ d + 3 by omega) q1 (show i < 2000 by omega) (show j + 1 < 2000 by omega)
    rw [← q2, ← n_as, sum_parts_all h2 (qN q) (show j + 1 ≤ 1440 by omega) (show i ≤ j + 1 by omega)] at em
    rw [e1, bV_y, rf_3_7 hs1, bR_s, gd55, em, bI_y, n_cl (by omega), n_cl (by omega), n_cl (by omega)]
  · rw [if_neg z, if_neg z]
    exact ⟨_, Fr.rfl', rfl⟩
