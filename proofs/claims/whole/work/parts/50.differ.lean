/-! ===== DIFFER ===== -/
def difV (v : eV) (a T : Nat) : Nat := cnt (fun i => !decide (pP v 0 (a + i) = pP v 1 (a + i))) (T - a)
def sp_differ (v : eV) (a b : Int32) : Int32 := if isc v 1 = 1 then (if spS v 0 a b = true then nI (difV v a.toNatClampNeg (b.toNatClampNeg + 1)) else -1) else -1
theorem cnt_not (p : Nat → Bool) : ∀ n, n - cnt p n = cnt (fun i => !p i) n
  | 0 => rfl
  | n + 1 => by
    have := cnt_not p n
    have := cnt_le p n
    show n + 1 - (cnt p n + (if p n = true then 1 else 0)) = cnt (fun i => !p i) n + (if (!p n) = true then 1 else 0)
    cases p n
    · rw [if_neg (by decide), if_pos (by decide)]; omega
    · rw [if_pos rfl, if_neg (by decide)]; omega
theorem cnt_win (R : Nat → Bool) (a x y : Nat) : ∀ n, cnt (fun i => decide (x ≤ a + i ∧ a + i < y) && R (a + i)) n = cnt (fun i => R (max x a + i)) (min y (a + n) - max x a)
  | 0 => by rw [show min y (a + 0) - max x a = 0 by omega]; rfl
  | n + 1 => by
    show cnt _ n + (if (decide (x ≤ a + n ∧ a + n < y) && R (a + n)) = true then 1 else 0) = _
    rw [cnt_win R a x y n]
    by_cases z : x ≤ a + n ∧ a + n < y
    · rw [decide_eq_true z, Bool.true_and, show min y (a + (n + 1)) - max x a = (min y (a + n) - max x a) + 1 by omega]
      show _ = cnt _ _ + (if R (max x a + (min y (a + n) - max x a)) = true then 1 else 0)
      rw [show max x a + (min y (a + n) - max x a) = a + n by omega]
    · rw [decide_eq_false z, Bool.false_and, if_neg (by decide), show min y (a + (n + 1)) - max x a = min y (a + n) - max x a by omega]
      rfl
/-- the minutes of the span within the other's part in which they differ -/
def dfP (v : eV) (S : Nat → Nat) (N a T l : Nat) : Nat := cnt (fun i => decide (eS S N l ≤ a + i ∧ a + i < eS S N (l + 1)) && !decide (pP v 0 (a + i) = pP v 1 (a + i))) (T - a)
theorem dfP_e {v : eV} {S Q : Nat → Nat} {N : Nat} (h : CQ v 1 (nS v) S Q N) {S0 Q0 : Nat → Nat} {N0 : Nat} (h0 : CQ v 0 (nS v) S0 Q0 N0) {a T l : Nat} (hT : T ≤ 1440) (ha : a ≤ T) (hl : l < N) : smN (fun i => if Q0 i = Q l then ovl S0 N0 (max (eS S N l) a) (min (eS S N (l + 1)) T) i else 0) N0 ≤ ovl S N a T l ∧ ovl S N a T l - smN (fun i => if Q0 i = Q l then ovl S0 N0 (max (eS S N l) a) (min (eS S N (l + 1)) T) i else 0) N0 = dfP v S N a T l := by
  unfold dfP
  rw [cnt_win (fun k => !decide (pP v 0 k = pP v 1 k)), show a + (T - a) = T by omega]
  have el : eS S N l = S l := if_pos hl
  by_cases z : max (eS S N l) a ≤ min (eS S N (l + 1)) T
  · rw [sum_parts_all h0 (Q l) (by omega) z]
    unfold poiV
    refine ⟨cnt_le _ _, ?_⟩
    show (min (eS S N (l + 1)) T - max (eS S N l) a) - _ = _
    rw [cnt_not]
    refine cnt_c fun i hi => ?_
    rw [CQ_in h hl (m := max (eS S N l) a + i) (by rw [← el]; omega) (by omega) (by omega)]
  · have e0 : min (eS S N (l + 1)) T - max (eS S N l) a = 0 := by omega
    have e1 : smN (fun i => if Q0 i = Q l then ovl S0 N0 (max (eS S N l) a) (min (eS S N (l + 1)) T) i else 0) N0 = 0 := smN_z fun i hi => by
      by_cases y : Q0 i = Q l
      · rw [if_pos y]; unfold ovl; omega
      · rw [if_neg y]
    unfold ovl at e1 ⊢
    rw [e1, e0]
    exact ⟨Nat.le_refl _, rfl⟩
theorem dfP_sum {v : eV} {S Q : Nat → Nat} {N : Nat} (h : CQ v 1 (nS v) S Q N) {a T : Nat} (hT : T ≤ 1440) : ∀ k, k ≤ N → smN (dfP v S N a T) k = cnt (fun i => decide (a + i < (if k = 0 then 0 else eS S N k)) && !decide (pP v 0 (a + i) = pP v 1 (a + i))) (T - a)
  | 0, _ => (cnt_f fun i _ => by rw [if_pos rfl, decide_eq_false (Nat.not_lt_zero _), Bool.false_and]).symm
  | k + 1, hk => by
    have ih := dfP_sum h (a := a) hT k (by omega)
    have e : smN (dfP v S N a T) (k + 1) = smN (dfP v S N a T) k + dfP v S N a T k := rfl
    have eSk : eS S N k = S k := if_pos (by omega)
    have hmono : S k ≤ eS S N (k + 1) ∨ 1440 ≤ eS S N (k + 1) := by
      unfold eS
      by_cases y : k + 1 < N
      · rw [if_pos y]; exact Or.inl (CQ_mono h y)
      · rw [if_neg y]; exact Or.inr (Nat.le_refl _)
    have e0 : (if k = 0 then 0 else eS S N k) = S k := by
      by_cases y : k = 0
      · subst y; rw [if_pos rfl, h.1.2.2.1]
      · rw [if_neg y, eSk]
    rw [e, ih, e0, if_neg (Nat.succ_ne_zero k)]
    unfold dfP
    rw [eSk]
    refine (cnt_add (fun i hi => ?_) (fun i hi => ?_)).symm
    · simp only [Bool.and_eq_true, decide_eq_true_iff]
      constructor
      · rintro ⟨p1, p2⟩
        by_cases y : a + i < S k
        · exact Or.inl ⟨y, p2⟩
        · exact Or.inr ⟨⟨by omega, p1⟩, p2⟩
      · rintro (⟨p1, p2⟩ | ⟨⟨p1, p2⟩, p3⟩)
        · exact ⟨by omega, p2⟩
        · exact ⟨p2, p3⟩
    · simp only [Bool.and_eq_true, decide_eq_true_iff]
      rintro ⟨⟨p1, _⟩, ⟨p2, _⟩, _⟩
      omega
theorem dfP_all {v : eV} {S Q : Nat → Nat} {N : Nat} (h : CQ v 1 (nS v) S Q N) {a T : Nat} (hT : T ≤ 1440) : smN (dfP v S N a T) N = difV v a T := by
  have hN := h.1.1
  rw [dfP_sum h hT N (Nat.le_refl _), if_neg (by omega)]
  unfold difV
  exact cnt_c fun i hi => by
    rw [show eS S N N = 1440 from if_neg (Nat.lt_irrefl _), decide_eq_true (by omega), Bool.true_and]
theorem Co_minutesUnlike_6_s {v : eV} {m : eM} {S0 Q0 S Q : Nat → Nat} {N0 N : Nat} (c0 : CoP 55 S0 Q0 N0 m) (h0 : CQ v 0 (nS v) S0 Q0 N0) (c1 : CoP 58 S Q N m) (h1 : CQ v 1 (nS v) S Q N) (d : Nat) {a T : Nat} (hT : T ≤ 1440) (ha : a ≤ T) : ∀ j l w6 w7 w8, l + j = N → Co_minutesUnlike_6 (d + 3) 55 58 (nI a) (nI T - 1) (nI (smN (dfP v S N a T) l)) (nI l) w6 w7 w8 m = yI (nI (smN (dfP v S N a T) N)) m
  | 0, l, w6, w7, w8, e => by
    have hN := c1.2.2.2.1
    rw [Co_minutesUnlike_6_e _ _ _ _ _ _ _ _ _ _ _ kd_55 kd_58, c1.2.2.1, if_pos (by rw [n_le (by omega) (by omega)]; omega), show N = l by omega]
  | j + 1, l, w6, w7, w8, e => by
    have hN := c1.2.2.2.1
    have hS := (c1.2.2.2.2 l (by omega)).2.2.1
    have hQ := (c1.2.2.2.2 l (by omega)).2.2.2
    have e1 : eS S N l < 2000 := by rw [show eS S N l = S l from if_pos (by omega)]; exact hS
    have e2 : eS S N (l + 1) < 2000 := by
      unfold eS
      by_cases y : l + 1 < N
      · rw [if_pos y]; exact (c1.2.2.2.2 (l + 1) y).2.2.1
      · rw [if_neg y]; decide
    obtain ⟨q1, q2⟩ := dfP_e h1 h0 hT ha (show l < N by omega)
    have em := Co_minutesAt_s c0 (show 2 ≤ d + 2 by omega) hQ (a := max (eS S N l) a) (T := min (eS S N (l + 1)) T) (by omega) (by omega)
    have es : smN (dfP v S N a T) (l + 1) = smN (dfP v S N a T) l + dfP v S N a T l := rfl
    have ov : min (eS S N (l + 1)) T - max (eS S N l) a = ovl S N a T l := rfl
    rw [Co_minutesUnlike_6_e _ _ _ _ _ _ _ _ _ _ _ kd_55 kd_58, c1.2.2.1, if_neg (by rw [n_le (by omega) (by omega)]; omega), Co_start_s c1 _ (by omega), bI_y, nI_1, Co_start_s c1 _ (by omega), bI_y, Co_whom_s c1 _ (by omega), bI_y, iMin_m (by omega) (by omega), iMax_n (by omega) (by omega), Nat.min_comm, Nat.max_comm, em, bI_y, sub1_add1, iMax0_sub (by omega) (by omega), ov, pk_sub q1, q2, lI_u, nI_add, ← es]
    exact Co_minutesUnlike_6_s c0 h0 c1 h1 d hT ha j (l + 1) _ _ _ (by omega)
theorem Mo_differ_36_s {v : eV} (hv : Va v) {m : eM} (h : Mp v m) (hr : Rw v (fun i => i) (nS v) m) (d : Nat) {a b : Nat} (hb : b < 1440) : ∀ j k, a + k + j = b + 1 → Mo_differ_36 (d + 2) 208 (nI a) (nI b) (nI (cnt (fun i => !decide (pP v 0 (a + i) = pP v 1 (a + i))) k)) (nI (a + k)) m = yI (nI (difV v a (b + 1))) m
  | 0, k, e => by
    rw [Mo_differ_36_e _ _ _ _ _ _ _ kd_208, if_pos (by rw [n_lt (by omega) (by omega)]; omega)]
    unfold difV
    rw [show b + 1 - a = k by omega]
  | j + 1, k, e => by
    have h1 := pP_lt hv 0 (a + k)
    have h2 := pP_lt hv 1 (a + k)
    have ih := Mo_differ_36_s (a := a) hv h hr d hb j (k + 1) (by omega)
    have p0 : Mo_pointsTo (d + 1) 208 (0 : Int32) (nI (a + k)) (gI m 208 44) m = yI (pI (pP v 0 (a + k))) m := Mo_pt_s (c := 0) hv h hr (by omega) (by decide) (by omega)
    have p1 : Mo_pointsTo (d + 1) 208 (1 : Int32) (nI (a + k)) (gI m 208 44) m = yI (pI (pP v 1 (a + k))) m := Mo_pt_s (c := 1) hv h hr (by omega) (by decide) (by omega)
    have es : cnt (fun i => !decide (pP v 0 (a + i) = pP v 1 (a + i))) (k + 1) = cnt (fun i => !decide (pP v 0 (a + i) = pP v 1 (a + i))) k + (if (!decide (pP v 0 (a + k) = pP v 1 (a + k))) = true then 1 else 0) := rfl
    rw [Mo_differ_36_e _ _ _ _ _ _ _ kd_208, if_neg (by rw [n_lt (by omega) (by omega)]; omega), p0, bI_y, p1, bI_y, show (0 : Int32) = nI 0 from rfl, nI_1, nI_1, nI_add, ← ih, es]
    by_cases z : pP v 0 (a + k) = pP v 1 (a + k)
    · rw [if_pos (by rw [z]), decide_eq_true z]; rfl
    · rw [if_neg (fun y => z ((pI_i h1 h2).mp y)), decide_eq_false z]; rfl
theorem Mo_differ_s {v : eV} (hv : Va v) {D : Nat} (hD : 5 ≤ D) {m : eM} (h : Mp v m) (a b : Int32) : ∃ m', Fr sQ m m' ∧ Mo_differ D 208 a b m = yI (sp_differ v a b) m' := by
  obtain ⟨d, rfl⟩ : ∃ d, D = d + 5 := ⟨D - 5, by omega⟩
  have h0 := th0 h
  have hs0 := h0.sk
  have hi : gI (sI m 208 0 0) 218 ((1 : Int32).toNatClampNeg) = nI (isc v 1) := mp_isc h0 (by decide)
  have hic := hv.ic (show 1 < 2 by decide)
  rw [Mo_differ_e _ _ _ _ _ kd_208, mI_u, rf_208_18 hs0, bR_s, show (1 : Int32) = nI 1 from rfl, ga_218 (by decide), ← show (1 : Int32) = nI 1 from rfl, hi]
  unfold sp_differ
  by_cases z1 : isc v 1 = 1
  · rw [z1, if_neg (by decide), if_pos rfl, Mo_isSpan_s hv h0 (by omega), br1]
    by_cases z2 : spS v 0 a b = true
    · rw [if_pos z2, if_pos z2]
      obtain ⟨m1, f1, e1, r1⟩ := Mo_rows_0 hv (show 4 ≤ d + 4 by omega) h0
      obtain ⟨k, i, j, hk, hi, hj, hij, -, rfl, rfl⟩ := spS_of z2
      refine ⟨m1, f0.tr f1, ?_⟩
      rw [e1, bV_y, n_cl (by omega), n_cl (by omega)]
      exact Mo_differ_36_s hv (h0.q f1) r1 (d + 3) (a := i) hj (j + 1 - i) 0 (by omega)
    · rw [if_neg z2, if_neg z2]
      exact ⟨_, f0, rfl⟩
  · rw [show isc v 1 = 0 by omega, if_pos (show nI 0 = 0 from rfl), if_neg (by decide)]
    exact ⟨_, f0, rfl⟩
theorem LC_differ_s {v : eV} (hv : Va v) {p : Nat} {m : eM} (h : Cn v p m) {D : Nat} (hD : 5 ≤ D) (a b : Int32) : ∃ m', Fr sK m m' ∧ LC_differ D 3 a b m = yI (sp_differ v a b) m' := by
  obtain ⟨d, rfl⟩ : ∃ d, D = d + 5 := ⟨D - 5, by omega⟩
  have hs := h.sk
  have t1 : thr v 1 = decide (isc v 1 = 1) := rfl
  have t0 : thr v 0 = decide (isc v 0 = 1) := rfl
  have hi0 := hv.i0
  rw [LC_differ_e _ _ _ _ _ kd_3, rf_3_2 hs, bR_s, gd9, h.r0, bR_s, h.gp, Pa_isThere_s hv h.p (by omega), br0, LC_isSpan_s (by omega), br1]
  unfold sp_differ
  by_cases z1 : isc v 1 = 1
  · have eS : spS v 0 a b = (inN a 1440 && (inN b 1440 && !decide (b < a))) := by
      unfold spS
      rw [t0, decide_eq_true hi0, Bool.true_and]
    rw [t1, decide_eq_true z1, if_pos rfl, if_pos z1, eS]
    by_cases z2 : (inN a 1440 && (inN b 1440 && !decide (b < a))) = true
    · rw [if_pos z2, if_pos z2]
      rw [← eS] at z2
      obtain ⟨k, i, j, hk, hi, hj, hij, -, rfl, rfl⟩ := spS_of z2
      obtain ⟨m1, S0, Q0, N0, f1, e1, c0, q0⟩ := Co_follow_s hv (t := 55) (Or.inl rfl) (show 3 ≤ d + 4 by omega) (show 0 < 2 by decide) h
      have hc1 := h.q (sc_K (Or.inl rfl) f1)
      have hs1 := hc1.sk
      obtain ⟨m2, S, Q, N, f2, e2, c1, q1⟩ := Co_follow_s hv (t := 58) (Or.inr rfl) (show 3 ≤ d + 4 by omega) (show 1 < 2 by decide) hc1
      have hc2 := hc1.q (sc_K (Or.inr rfl) f2)
      have hs2 := hc2.sk
      have c0' := c0.fr f2 fun a j y1 y2 => sTc_n (by omega)
      refine ⟨m2, (sc_K (Or.inl rfl) f1).tr (sc_K (Or.inr rfl) f2), ?_⟩
      have en := Co_minutesUnlike_6_s c0' q0 c1 q1 (d + 1) (a := i) (T := j + 1) (by omega) (by omega) N 0 eU eU eU (by omega)
      rw [dfP_all q1 (by omega), ← n_as] at en
      have en : Co_minutesUnlike_6 (d + 4) 55 58 (nI i) (nI j) (0 : Int32) (0 : Int32) eU eU eU m2 = _ := en
      have e1 : Co_follow (d + 4) 55 9 (0 : Int32) m = yV m1 := e1
      have e2 : Co_follow (d + 4) 58 9 (1 : Int32) m1 = yV m2 := e2
      rw [rf_3_7 hs, bR_s, rf_3_2 hs, bR_s, gd55, e1, bV_y, rf_3_8 hs1, bR_s, rf_3_2 hs1, bR_s, gd58, e2, bV_y, rf_3_7 hs2, bR_s, rf_3_8 hs2, bR_s, gd55, Co_minutesUnlike_e _ _ _ _ _ _ kd_55 kd_58, en, bI_y, n_cl (by omega), n_cl (by omega)]
    · rw [if_neg z2, if_neg z2]
      exact ⟨_, Fr.rfl', rfl⟩
  · rw [t1, decide_eq_false z1, if_neg (by decide), if_neg z1]
    exact ⟨_, Fr.rfl', rfl⟩
