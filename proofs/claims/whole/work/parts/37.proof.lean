/-! ===== counts ===== -/
def cou (v : eV) (len : Nat) : Nat → Nat
  | 0 => nF v
  | 1 => nPl v
  | 2 => nP v
  | 3 => nCm v
  | 4 => if isc v 1 = 1 then 2 else 1
  | 5 => nS v
  | 6 => nL v
  | 7 => nO v
  | 8 => nWt v
  | 9 => tru v
  | 10 => len
  | _ => pcL (com v)
def sp_count (v : eV) (len : Nat) (w : Int32) : Int32 := if inN w 12 = true then nI (cou v len w.toNatClampNeg) else -1
theorem l_11 : (11 : Int32) = nI 11 := rfl
theorem Mo_count_s {v : eV} (hv : Va v) {D : Nat} (hD : 1 ≤ D) {m : eM} (h : Mp v m) {len : Nat} (hl : gI m 208 1 = nI len) (w : Int32) : ∃ m', Fr sQ m m' ∧ Mo_count D 208 w m = yI (sp_count v len w) m' := by
  obtain ⟨d, rfl⟩ : ∃ d, D = d + 1 := ⟨D - 1, by omega⟩
  have hnF := hv.f; have hnPl := hv.pl; have hnP := hv.p; have hnC := hv.cm; have hnS := hv.s; have hnO := hv.o; have hnL := hv.l; have hnW := hv.wt; have hW := W_le hv; have hW0 := @W_pos v; have htr := hv.tr
  have h0 := th0 h
  have hs0 := h0.sk
  have hl0 : gI (sI m 208 0 0) 208 1 = nI len := by rw [gI_sI, if_neg (by decide)]; exact hl
  have hic := hv.ic (j := 1) (by decide)
  refine ⟨_, f0, ?_⟩
  rw [Mo_count_e _ _ _ _ kd_208, mI_u, l_11, Mo_within_s _ _ (by decide), br1]
  unfold sp_count
  by_cases z : inN w 12 = true
  · rw [if_pos z, if_pos z]
    obtain ⟨u, hu, rfl⟩ := inN_of (by decide) z
    have hcases : u = 0 ∨ u = 1 ∨ u = 2 ∨ u = 3 ∨ u = 4 ∨ u = 5 ∨ u = 6 ∨ u = 7 ∨ u = 8 ∨ u = 9 ∨ u = 10 ∨ u = 11 := by omega
    clear hnF hnPl hnP hnC hnS hnO hnL hnW hW hW0 htr
    rcases hcases with q | q | q | q | q | q | q | q | q | q | q | q <;> subst q <;> simp (disch := first | assumption | omega) only [l_2, l_3, l_4, l_5, l_6, l_7, l_8, l_9, l_10, l_12, l_15, l_16, l_18, l_20, l_21, l_22, l_24, l_25, l_26, l_27, l_28, l_29, l_30, l_32, l_36, l_40, l_41, l_42, l_43, l_45, l_48, l_56, l_57, l_59, l_60, l_61, l_62, l_63, l_64, l_97, l_99, l_100, l_122, l_126, l_127, l_168, l_180, l_255, l_300, l_359, l_360, l_400, l_1000, l_1200, l_1439, l_1440, l_1536, l_4096, l_3, n_le, n_eq, n_cl, Nat.reduceLeDiff, Nat.reduceEqDiff, if_true, if_false, not_true, not_false_iff, bR_s, rf_208_10, rf_208_18, rf_208_19, ga_210, gy_218, gz_219, n_cl0, n_cl1, mp_f, mp_pl, mp_p, mp_cm, mp_s, mp_l, mp_o, mp_w, mp_t, mp_com, mp_isc, Mo_bits_s, bI_y, hl0, n_eq0, cou]
    by_cases y : isc v 1 = 1
    · rw [if_neg (by omega), if_pos y]
    · rw [if_pos (by omega), if_neg y]; rfl
  · rw [if_neg z, if_neg z]
theorem LC_count_s {v : eV} (hv : Va v) {p : Nat} {m : eM} (h : Cn v p m) {D : Nat} (hD : 2 ≤ D) {len : Nat} (hl : gI m 4 1 = nI len) (w : Int32) : ∃ m', Fr sK m m' ∧ LC_count D 3 w m = yI (sp_count v len w) m' := by
  obtain ⟨d, rfl⟩ : ∃ d, D = d + 2 := ⟨D - 2, by omega⟩
  have hs := h.sk
  refine ⟨m, Fr.rfl', ?_⟩
  rw [LC_count_e _ _ _ _ kd_3, LC_count_64_e _ _ _ _ kd_3, LC_count_75_e _ _ _ _ kd_3, LC_count_86_e _ _ _ _ kd_3, LC_count_97_e _ _ _ _ kd_3, LC_count_108_e _ _ _ _ kd_3, LC_count_128_e _ _ _ _ kd_3, LC_count_139_e _ _ _ _ kd_3, LC_count_150_e _ _ _ _ kd_3, LC_count_161_e _ _ _ _ kd_3, LC_count_172_e _ _ _ _ kd_3, LC_count_180_e _ _ _ _ kd_3, LC_count_188_e _ _ _ _ kd_3, LC_count_202_e _ _ _ _ kd_3]
  simp only [rf_3_2 hs, rf_3_0 hs, rf_9_1 hs, rf_9_2 hs, rf_9_3 hs, rf_9_4 hs, bR_s, gd9, gd22, gd28, gd34, gd39, gd4, h.r0, h.gp, Pa_facts_s h.p, Pa_places_s h.p, Pa_people_s h.p, Pa_commons_s h.p, Pa_isThere_s hv h.p (show 1 ≤ d + 1 by omega), br0, Tk_size_e _ _ _ kd_22, Tk_size_e _ _ _ kd_28, Lo_size_e _ _ _ kd_34, Lo_size_e _ _ _ kd_39, h.t.2.2.1, h.o.2.2.1, h.l.2.2.1, h.w.2.2.1, h.tr, Ta_length_e _ _ _ kd_4, hl, Pa_commonWorlds_s h.p, bL_y, Lg_bitCount_s]
  simp only [bI_y]
  have et : thr v 1 = decide (isc v 1 = 1) := by
    show (inN (nI 1) 2 && decide (isc v ((nI 1).toNatClampNeg) = 1)) = _
    rw [inN_n (by decide) (by decide), n_cl (by decide)]
    rfl
  unfold sp_count
  rw [show (0 : Int32) = nI 0 from rfl, et]
  by_cases z : inN w 12 = true
  · rw [if_pos z]
    obtain ⟨u, hu, rfl⟩ := inN_of (by decide) z
    rw [n_cl (by omega)]
    have hcases : u = 0 ∨ u = 1 ∨ u = 2 ∨ u = 3 ∨ u = 4 ∨ u = 5 ∨ u = 6 ∨ u = 7 ∨ u = 8 ∨ u = 9 ∨ u = 10 ∨ u = 11 := by omega
    rcases hcases with q | q | q | q | q | q | q | q | q | q | q | q <;> subst q
    all_goals simp only [tsw_n (show (0 : Nat) < 1000 by decide), tsw_n (show (1 : Nat) < 1000 by decide), tsw_n (show (2 : Nat) < 1000 by decide), tsw_n (show (3 : Nat) < 1000 by decide), tsw_n (show (4 : Nat) < 1000 by decide), tsw_n (show (5 : Nat) < 1000 by decide), tsw_n (show (6 : Nat) < 1000 by decide), tsw_n (show (7 : Nat) < 1000 by decide), tsw_n (show (8 : Nat) < 1000 by decide), tsw_n (show (9 : Nat) < 1000 by decide), tsw_n (show (10 : Nat) < 1000 by decide), tsw_n (show (11 : Nat) < 1000 by decide), Nat.reduceAdd, Nat.reduceEqDiff, Nat.reduceLT, if_true, if_false]
    all_goals try rfl
    all_goals (by_cases y : isc v 1 = 1
               · rw [if_pos (decide_eq_true y)]; show _ = yI (nI (if isc v 1 = 1 then 2 else 1)) m; rw [if_pos y]; rfl
               · rw [if_neg (by rw [decide_eq_false y]; decide)]; show _ = yI (nI (if isc v 1 = 1 then 2 else 1)) m; rw [if_neg y]; rfl)
  · rw [if_neg z]
    exact tsw_o (by show 0 + 12 < 2147483648; decide) fun j hj => ne_of_inN (by decide) z j hj
