/-! ===== BLIND: both sides ===== -/
theorem or_2 {a P : Nat} (b c : Bool) : (a ||| (if b = true then P else 0)) ||| (if c = true then P else 0) = a ||| (if (b || c) = true then P else 0) := by
  cases b <;> cases c <;> simp [Nat.or_assoc]
theorem Pa_near_17_s {v : eV} (hv : Va v) {p : Nat} {m : eM} (h : Pp v p m) (d : Nat) {S g i R : Nat} (hS : S < 64) (hg : g ≤ 180) (hi : i < nP v) : ∀ j k w, k + j = nP v → ∃ w5 w6, Pa_near_17 (d + 2) p (nI S) (nI g) (nI (R ||| (if exB (fun q => apB v g i q && S.testBit q) k = true then 2 ^ i else 0))) (nI i) (nI k) w m = Pa_near_5 (d + 2) p (nI S) (nI g) (nI (R ||| (if exB (fun q => apB v g i q && S.testBit q) (nP v) = true then 2 ^ i else 0))) (nI (i + 1)) w5 w6 m
  | 0, k, w, e => by
    have hp := hv.p
    refine ⟨.int (nI k), w, ?_⟩
    rw [Pa_near_17_e _ _ _ _ _ _ _ _ _ h.kd, h.2.2.1.2.2.1, if_pos (by rw [n_le (by omega) (by omega)]; omega), nI_1, show nP v = k by omega]
  | j + 1, k, w, e => by
    have hp := hv.p
    have h1 := pe_lt hv i
    have h2 := pe_lt hv k
    have hal : apa (peB v i) (peB v k) ≤ 180 := apa_le _ _
    have es : exB (fun q => apB v g i q && S.testBit q) (k + 1) = (exB (fun q => apB v g i q && S.testBit q) k || (apB v g i k && S.testBit k)) := rfl
    have ih := fun w => Pa_near_17_s hv h d (R := R) hS hg hi j (k + 1) w (by omega)
    rw [es, ← or_2] at ih
    have key : ∀ (P : Int32), P = bb (apB v g i k) → ∃ w5 w6, Pa_near_50 (d + 2) p (nI S) (nI g) (nI (R ||| (if exB (fun q => apB v g i q && S.testBit q) k = true then 2 ^ i else 0))) (nI i) (nI k) w P m = Pa_near_5 (d + 2) p (nI S) (nI g) (nI (R ||| (if exB (fun q => apB v g i q && S.testBit q) (nP v) = true then 2 ^ i else 0))) (nI (i + 1)) w5 w6 m := fun P hP => by
      obtain ⟨w5, w6, ih⟩ := ih (.int P)
      refine ⟨w5, w6, ?_⟩
      rw [← ih, Pa_near_50_e _ _ _ _ _ _ _ _ _ _ h.kd, bitI (by omega) (by omega), bb_1n, nI_1, shl1 _ (by omega), show (0 : Int32) = nI 0 from rfl, orN, orN, hP]
      cases apB v g i k
      · rw [if_pos (show bb false = nI 0 from rfl)]; rfl
      · rw [if_neg (by decide)]
        cases S.testBit k <;> rfl
    rw [Pa_near_17_e _ _ _ _ _ _ _ _ _ h.kd, h.2.2.1.2.2.1, if_neg (by rw [n_le (by omega) (by omega)]; omega), Pa_bearing_p hv h _ (by omega), bI_y, Pa_bearing_p hv h _ (by omega), bI_y, LC_shorterWay_s (by omega) h1 h2, bI_y]
    by_cases z : apa (peB v i) (peB v k) ≤ g
    · rw [if_neg (by rw [n_lt (by omega) (by omega)]; omega)]
      exact key 1 (by unfold apB; rw [decide_eq_true z]; rfl)
    · rw [if_pos (by rw [n_lt (by omega) (by omega)]; omega)]
      exact key 0 (by unfold apB; rw [decide_eq_false z]; rfl)
theorem Pa_near_5_s {v : eV} (hv : Va v) {p : Nat} {m : eM} (h : Pp v p m) (d : Nat) {S g : Nat} (hS : S < 64) (hg : g ≤ 180) : ∀ j i w5 w6, i + j = nP v → Pa_near_5 (d + 2) p (nI S) (nI g) (nI (mkN (fun i => exB (fun q => apB v g i q && S.testBit q) (nP v)) i)) (nI i) w5 w6 m = yI (nI (nrS (apB v g) (nP v) S)) m
  | 0, i, w5, w6, e => by
    have hp := hv.p
    rw [Pa_near_5_e _ _ _ _ _ _ _ _ _ h.kd, h.2.2.1.2.2.1, if_pos (by rw [n_le (by omega) (by omega)]; omega)]
    unfold nrS
    rw [show nP v = i by omega]
  | j + 1, i, w5, w6, e => by
    have hp := hv.p
    obtain ⟨u5, u6, e17⟩ := Pa_near_17_s hv h d (R := mkN (fun i => exB (fun q => apB v g i q && S.testBit q) (nP v)) i) hS hg (show i < nP v by omega) (nP v) 0 w6 (by omega)
    have e0 : mkN (fun i => exB (fun q => apB v g i q && S.testBit q) (nP v)) i ||| (if exB (fun q => apB v g i q && S.testBit q) 0 = true then 2 ^ i else 0) = mkN (fun i => exB (fun q => apB v g i q && S.testBit q) (nP v)) i := by
      show _ ||| (if false = true then _ else 0) = _
      rw [if_neg (by decide), Nat.or_zero]
    rw [e0] at e17
    rw [Pa_near_5_e _ _ _ _ _ _ _ _ _ h.kd, h.2.2.1.2.2.1, if_neg (by rw [n_le (by omega) (by omega)]; omega)]
    exact e17.trans (Pa_near_5_s hv h d hS hg j (i + 1) u5 u6 (by omega))
theorem Pa_near_s {v : eV} (hv : Va v) {p : Nat} {m : eM} (h : Pp v p m) {D : Nat} (hD : 2 ≤ D) {S g : Nat} (hS : S < 64) (hg : g ≤ 180) : Pa_near D p (nI S) (nI g) m = yI (nI (nrS (apB v g) (nP v) S)) m := by
  obtain ⟨d, rfl⟩ : ∃ d, D = d + 2 := ⟨D - 2, by omega⟩
  rw [Pa_near_e _ _ _ _ _ h.kd]
  exact Pa_near_5_s hv h d hS hg (nP v) 0 eU eU (by omega)
theorem P_64 {v : eV} (hv : Va v) {S : Nat} (h : S < 2 ^ nP v) : S < 64 := Nat.lt_of_lt_of_le h (Nat.pow_le_pow_right (n := 2) (j := 6) (by decide) hv.p)
theorem LC_crowd_7_s {v : eV} (hv : Va v) {p : Nat} {m : eM} (h : Cn v p m) (d : Nat) {g i : Nat} (hg : g ≤ 180) (hi : i < nP v) : ∀ j t, t + j = 6 → LC_crowd_7 (d + 3) 3 (nI i) (nI g) (nI (crS (apB v g) (nP v) i t)) (nI t) m = yI (nI (crS (apB v g) (nP v) i 6)) m
  | 0, t, e => by
    obtain rfl : t = 6 := by omega
    rw [LC_crowd_7_e _ _ _ _ _ _ _ kd_3, if_pos (by decide)]
  | j + 1, t, e => by
    have hs := h.sk
    rw [LC_crowd_7_e _ _ _ _ _ _ _ kd_3, l_6, if_neg (by rw [n_le (by omega) (by omega)]; omega), rf_3_2 hs, bR_s, gd9, h.r0, bR_s, h.gp, Pa_near_s hv h.p (by omega) (P_64 hv (crS_lt hi t)) hg, bI_y, nI_1]
    exact LC_crowd_7_s hv h d hg hi j (t + 1) (by omega)
theorem LC_blind_28_s {v : eV} (hv : Va v) {p : Nat} {m : eM} (h : Cn v p m) (d : Nat) {g : Nat} (hg : g ≤ 180) (w : Int32) : ∀ j i, i + j = nP v → LC_blind_28 (d + 4) 3 (nI g) w (nI (smN (fun p => cnt (fun i => apB v g i p) (nP v) - 1) i)) (nI (blM v g i)) (nI i) m = yI (nI (if w = 0 then blP v g (nP v) else blM v g (nP v))) m
  | 0, i, e => by
    have hs := h.sk
    have hp := hv.p
    have hb := blP_le v g (nP v) hp
    rw [LC_blind_28_e _ _ _ _ _ _ _ _ kd_3, rf_3_2 hs, bR_s, gd9, h.r0, bR_s, h.gp, Pa_people_s h.p, bI_y, if_pos (by rw [n_le (by omega) (by omega)]; omega), show i = nP v by omega, two_cnt (apB_r v g) (apB_c v g)]
    have e2 : nI (2 * smN (fun p => cnt (fun r => apB v g p r) p) (nP v)) / 2 = nI (blP v g (nP v)) := by
      have := nI_div (a := 2 * blP v g (nP v)) (b := 2) (by omega) (by decide)
      rw [show 2 * blP v g (nP v) / 2 = blP v g (nP v) by omega] at this
      exact this
    rw [e2]
    by_cases z : w = 0
    · rw [if_neg (fun q => q z), if_pos z]
    · rw [if_pos z, if_neg z]
  | j + 1, i, e => by
    have hs := h.sk
    have hp := hv.p
    have hi : i < nP v := by omega
    have h1 : 2 ^ i < 64 := P_64 hv (Nat.pow_lt_pow_right (by decide) hi)
    have h2 := P_64 hv (crS_lt (A := apB v g) hi 6)
    have h3 : nrS (apB v g) (nP v) (2 ^ i) < 64 := P_64 hv (mkN_lt _ _)
    have hc : 0 < cnt (fun q => apB v g q i) (nP v) := cnt_pos.mpr ⟨i, hi, apB_r v g i⟩
    have hb := blM_le v g i
    have hb2 := pcN_le (crS (apB v g) (nP v) i 6)
    have ec : LC_crowd (d + 3) 3 (nI i) (nI g) m = yI (nI (crS (apB v g) (nP v) i 6)) m := by
      rw [LC_crowd_e _ _ _ _ _ kd_3, shl1 _ (by omega)]
      exact LC_crowd_7_s hv h d hg hi 6 0 (by omega)
    have es : smN (fun p => cnt (fun i => apB v g i p) (nP v) - 1) (i + 1) = smN (fun p => cnt (fun i => apB v g i p) (nP v) - 1) i + (cnt (fun q => apB v g q i) (nP v) - 1) := rfl
    have em : blM v g (i + 1) = max (blM v g i) (pcN (crS (apB v g) (nP v) i 6)) := rfl
    rw [LC_blind_28_e _ _ _ _ _ _ _ _ kd_3, rf_3_2 hs, bR_s, gd9, h.r0, bR_s, h.gp, Pa_people_s h.p, bI_y, if_neg (by rw [n_le (by omega) (by omega)]; omega), rf_3_2 hs, bR_s, gd9, h.r0, bR_s, h.gp, shl1 _ (by omega), Pa_near_s hv h.p (by omega) h1 hg, bI_y, In_bitCount_s _ (by omega), bI_y, ec, bI_y, In_bitCount_s _ (by omega), bI_y, pc_near hp hi, n_s1 hc, iMax_n (by omega) (by omega), nI_add, nI_1, ← es, ← em]
    exact LC_blind_28_s hv h d hg w j (i + 1) (by omega)
theorem LC_blind_s {v : eV} (hv : Va v) {p : Nat} {m : eM} (h : Cn v p m) {D : Nat} (hD : 4 ≤ D) (g w : Int32) : ∃ m', Fr sK m m' ∧ LC_blind D 3 g w m = yI (sp_blind v g w) m' := by
  obtain ⟨d, rfl⟩ : ∃ d, D = d + 4 := ⟨D - 4, by omega⟩
  refine ⟨m, Fr.rfl', ?_⟩
  have e1 : LC_blind (d + 4) 3 g w m = if inN g 181 = true then (if inN w 2 = true then LC_blind_28 (d + 4) 3 g w 0 0 0 m else yI (-1) m) else yI (-1) m := by
    rw [LC_blind_e _ _ _ _ _ kd_3, LC_isWhat_s, br1, l_180]
    simp only [lt_succ (n := 180) (x := g) (by decide)]
    exact inN_t _ _
  rw [e1]
  unfold sp_blind
  by_cases z1 : inN g 181 = true
  · rw [if_pos z1, if_pos z1]
    by_cases z2 : inN w 2 = true
    · rw [if_pos z2, if_pos z2]
      obtain ⟨k, hk, rfl⟩ := inN_of (by decide) z1
      rw [n_cl (by omega)]
      exact LC_blind_28_s hv h d (by omega) w (nP v) 0 (by omega)
    · rw [if_neg z2, if_neg z2]
  · rw [if_neg z1, if_neg z1]
