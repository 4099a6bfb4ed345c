/-! ===== BLIND: the reference ===== -/
theorem hom_r {v : eV} (hv : Va v) {m : eM} (h : Mp v m) {q : Nat} (hq : q < nP v) : gI m 214 q = nI (hom v q) ∧ hom v q < 6 ∧ gI m 213 (hom v q) = nI (peB v q) := by
  have hp := hv.p
  have hpl := hv.pl
  have hh := hv.ho hq
  refine ⟨mp_hom h (by omega), by omega, ?_⟩
  rw [mp_bea h (by omega)]
  unfold peB
  rw [if_pos hq]
theorem t_or2 {S r i : Nat} : (S ||| 2 ^ r).testBit i = true ↔ S.testBit i = true ∨ i = r := by
  rw [Nat.testBit_or, Bool.or_eq_true, Nat.testBit_two_pow, decide_eq_true_iff]
  constructor
  · rintro (h | h)
    · exact Or.inl h
    · exact Or.inr h.symm
  · rintro (h | h)
    · exact Or.inl h
    · exact Or.inr h.symm
theorem Mo_blind_79_s {v : eV} (hv : Va v) {m : eM} (h : Mp v m) (d : Nat) {g q : Nat} (hg : g ≤ 180) (hq : q < nP v) (x2 x3 x4 x5 x7 : Int32) (K : Nat → Bool) (hK : ∀ i q, i < nP v → q < nP v → apB v g i q = true → K q = true → K i = true) : ∀ j r S, r + j = nP v → S < 2 ^ nP v → (∀ i, S.testBit i = true → K i = true) → ∃ S', Mo_blind_79 (d + 2) 208 (nI g) x2 x3 x4 x5 (nI S) x7 (nI q) (nI r) m = Mo_blind_65 (d + 2) 208 (nI g) x2 x3 x4 x5 (nI S') x7 (nI (q + 1)) (.int (nI (nP v))) m ∧ S' < 2 ^ nP v ∧ (∀ i, S.testBit i = true → S'.testBit i = true) ∧ (∀ i, S'.testBit i = true → K i = true) ∧ (S.testBit q = true → ∀ i, r ≤ i → i < nP v → apB v g i q = true → S'.testBit i = true)
  | 0, r, S, e, hS, hSK => by
    have hp := hv.p
    have hs := h.sk
    refine ⟨S, ?_, hS, fun _ z => z, hSK, fun _ i h1 h2 => by omega⟩
    rw [Mo_blind_79_e _ _ _ _ _ _ _ _ _ _ _ _ kd_208, rf_208_10 hs, bR_s, show ∀ {o : oX}, ga m 210 20 2 o = o from ga_210 (n := 2) (by decide), show (2 : Int32).toNatClampNeg = 2 from rfl, mp_p h, if_pos (by rw [n_le (by omega) (by omega)]; omega), nI_1, show nP v = r by omega]
  | j + 1, r, S, e, hS, hSK => by
    have hp := hv.p
    have hs := h.sk
    have hS6 := P_64 hv hS
    have hr : r < nP v := by omega
    obtain ⟨q1, q2, q3⟩ := hom_r hv h hq
    obtain ⟨r1, r2, r3⟩ := hom_r hv h hr
    have p1 := pe_lt hv q
    have p2 := pe_lt hv r
    have hal : apa (peB v q) (peB v r) ≤ 180 := apa_le _ _
    have h2r : 2 ^ r < 2 ^ nP v := Nat.pow_lt_pow_right (by decide) hr
    rw [Mo_blind_79_e _ _ _ _ _ _ _ _ _ _ _ _ kd_208, rf_208_10 hs, bR_s, show ∀ {o : oX}, ga m 210 20 2 o = o from ga_210 (n := 2) (by decide), show (2 : Int32).toNatClampNeg = 2 from rfl, mp_p h, if_neg (by rw [n_le (by omega) (by omega)]; omega), bitI (by omega) (by omega), bb_1n, rf_208_13 hs, bR_s, rf_208_14 hs, bR_s, ga_214 (by omega), n_cl (n := q) (by omega), q1, ga_213 (by omega), n_cl (n := hom v q) (by omega), q3, bR_s, bR_s, ga_214 (by omega), n_cl (n := r) (by omega), r1, ga_213 (by omega), n_cl (n := hom v r) (by omega), r3, Mo_apart_s (by omega) p1 p2, bI_y, shl1 _ (by omega), orN, nI_1]
    by_cases z1 : S.testBit q = true
    · rw [if_pos z1]
      by_cases z2 : apa (peB v q) (peB v r) ≤ g
      · rw [if_neg (by rw [n_lt (by omega) (by omega)]; omega)]
        have ha : apB v g r q = true := by rw [apB_c]; exact decide_eq_true z2
        obtain ⟨S', e1, e2, e3, e4, e5⟩ := Mo_blind_79_s hv h d hg hq x2 x3 x4 x5 x7 K hK j (r + 1) (S ||| 2 ^ r) (by omega) (Nat.or_lt_two_pow hS h2r) (fun i hi => by
          rcases t_or2.mp hi with y | y
          · exact hSK i y
          · rw [y]; exact hK r q hr hq ha (hSK q z1))
        refine ⟨S', e1, e2, fun i hi => e3 i (t_or2.mpr (Or.inl hi)), e4, fun hq2 i h1 h2 h3 => ?_⟩
        by_cases y : i = r
        · subst y; exact e3 i (t_or2.mpr (Or.inr rfl))
        · exact e5 (t_or2.mpr (Or.inl hq2)) i (by omega) h2 h3
      · rw [if_pos (by rw [n_lt (by omega) (by omega)]; omega)]
        obtain ⟨S', e1, e2, e3, e4, e5⟩ := Mo_blind_79_s hv h d hg hq x2 x3 x4 x5 x7 K hK j (r + 1) S (by omega) hS hSK
        refine ⟨S', e1, e2, e3, e4, fun hq2 i h1 h2 h3 => ?_⟩
        by_cases y : i = r
        · subst y
          rw [apB_c] at h3
          exact absurd (of_decide_eq_true h3) z2
        · exact e5 hq2 i (by omega) h2 h3
    · rw [if_neg z1]
      obtain ⟨S', e1, e2, e3, e4, e5⟩ := Mo_blind_79_s hv h d hg hq x2 x3 x4 x5 x7 K hK j (r + 1) S (by omega) hS hSK
      exact ⟨S', e1, e2, e3, e4, fun hq2 => absurd hq2 z1⟩
theorem Mo_blind_65_s {v : eV} (hv : Va v) {m : eM} (h : Mp v m) (d : Nat) {g : Nat} (hg : g ≤ 180) (x2 x3 x4 x5 x7 : Int32) (K : Nat → Bool) (hK : ∀ i q, i < nP v → q < nP v → apB v g i q = true → K q = true → K i = true) : ∀ j q S w9, q + j = nP v → S < 2 ^ nP v → (∀ i, S.testBit i = true → K i = true) → ∃ S' u8 u9, Mo_blind_65 (d + 2) 208 (nI g) x2 x3 x4 x5 (nI S) x7 (nI q) w9 m = Mo_blind_55 (d + 2) 208 (nI g) x2 x3 x4 x5 (nI S') (x7 + 1) u8 u9 m ∧ S' < 2 ^ nP v ∧ (∀ i, S.testBit i = true → S'.testBit i = true) ∧ (∀ i, S'.testBit i = true → K i = true) ∧ (∀ k, q ≤ k → k < nP v → S.testBit k = true → ∀ i, i < nP v → apB v g i k = true → S'.testBit i = true)
  | 0, q, S, w9, e, hS, hSK => by
    have hp := hv.p
    have hs := h.sk
    refine ⟨S, .int (nI q), w9, ?_, hS, fun _ z => z, hSK, fun k h1 h2 => by omega⟩
    rw [Mo_blind_65_e _ _ _ _ _ _ _ _ _ _ _ _ kd_208, rf_208_10 hs, bR_s, show ∀ {o : oX}, ga m 210 20 2 o = o from ga_210 (n := 2) (by decide), show (2 : Int32).toNatClampNeg = 2 from rfl, mp_p h, if_pos (by rw [n_le (by omega) (by omega)]; omega)]
  | j + 1, q, S, w9, e, hS, hSK => by
    have hp := hv.p
    have hs := h.sk
    obtain ⟨S1, a1, a2, a3, a4, a5⟩ := Mo_blind_79_s hv h d hg (show q < nP v by omega) x2 x3 x4 x5 x7 K hK (nP v) 0 S (by omega) hS hSK
    obtain ⟨S', u8, u9, e1, e2, e3, e4, e5⟩ := Mo_blind_65_s hv h d hg x2 x3 x4 x5 x7 K hK j (q + 1) S1 (.int (nI (nP v))) (by omega) a2 a4
    refine ⟨S', u8, u9, ?_, e2, fun i hi => e3 i (a3 i hi), e4, fun k h1 h2 h3 i h4 h5 => ?_⟩
    · rw [Mo_blind_65_e _ _ _ _ _ _ _ _ _ _ _ _ kd_208, rf_208_10 hs, bR_s, show ∀ {o : oX}, ga m 210 20 2 o = o from ga_210 (n := 2) (by decide), show (2 : Int32).toNatClampNeg = 2 from rfl, mp_p h, if_neg (by rw [n_le (by omega) (by omega)]; omega)]
      exact a1.trans e1
    · by_cases y : k = q
      · subst y; exact e3 i (a5 h3 i (Nat.zero_le _) h4 h5)
      · exact e5 k (by omega) h2 (a3 k h3) i h4 h5
theorem Mo_blind_55_s {v : eV} (hv : Va v) {m : eM} (h : Mp v m) (d : Nat) {g p : Nat} (hg : g ≤ 180) (hpn : p < nP v) (x2 x3 x4 x5 : Int32) : ∀ j t S w8 w9, t + j = 6 → S < 2 ^ nP v → (∀ i, S.testBit i = true → (crS (apB v g) (nP v) p 6).testBit i = true) → (∀ i, (crS (apB v g) (nP v) p t).testBit i = true → S.testBit i = true) → ∃ u8 u9, Mo_blind_55 (d + 2) 208 (nI g) x2 x3 x4 x5 (nI S) (nI t) w8 w9 m = Mo_blind_175 (d + 2) 208 (nI g) x2 x3 (iMax x4 (nI (pcN (crS (apB v g) (nP v) p 6)))) x5 (nI (crS (apB v g) (nP v) p 6)) 0 u8 u9 m
  | 0, t, S, w8, w9, e, hS, h1, h2 => by
    obtain rfl : t = 6 := by omega
    obtain rfl : S = crS (apB v g) (nP v) p 6 := Nat.eq_of_testBit_eq fun i => by
      rw [Bool.eq_iff_iff]
      exact ⟨h1 i, h2 i⟩
    have hS6 := P_64 hv hS
    refine ⟨w8, w9, ?_⟩
    have e2 : pcL (nI (crS (apB v g) (nP v) p 6)).toInt64 = pcN (crS (apB v g) (nP v) p 6) := by
      rw [nI_J (by omega)]
      exact pcL_N (by omega)
    rw [Mo_blind_55_e _ _ _ _ _ _ _ _ _ _ _ _ kd_208, if_pos (by decide), Mo_bits_s, bI_y, e2]
  | j + 1, t, S, w8, w9, e, hS, h1, h2 => by
    have hp := hv.p
    obtain ⟨S', u8, u9, a1, a2, a3, a4, a5⟩ := Mo_blind_65_s hv h d hg x2 x3 x4 x5 (nI t) (fun i => (crS (apB v g) (nP v) p 6).testBit i) (fun i q hi hq ha hk => crS_6 (apB_r v g) hpn hp hi hq ha hk) (nP v) 0 S w9 (by omega) hS h1
    obtain ⟨u8', u9', ih⟩ := Mo_blind_55_s hv h d hg hpn x2 x3 x4 x5 j (t + 1) S' u8 u9 (by omega) a2 a4 (fun i hi => by
      obtain ⟨i1, q, q1, q2, q3⟩ := nrS_t.mp hi
      exact a5 q (Nat.zero_le _) q1 (h2 q q3) i i1 q2)
    refine ⟨u8', u9', ?_⟩
    rw [Mo_blind_55_e _ _ _ _ _ _ _ _ _ _ _ _ kd_208, l_6, if_neg (by rw [n_le (by omega) (by omega)]; omega)]
    refine a1.trans ?_
    rw [nI_1]
    exact ih
theorem Mo_blind_175_s {v : eV} (hv : Va v) {m : eM} (h : Mp v m) (d : Nat) {g p : Nat} (hg : g ≤ 180) (hpn : p < nP v) (x2 x4 x6 : Int32) (B : Nat) (w8 w9 : Value) : ∀ j r, r + j = p → ∃ u6 u7, Mo_blind_175 (d + 2) 208 (nI g) x2 (nI (B + cnt (fun r => apB v g p r) r)) x4 (nI p) x6 (nI r) w8 w9 m = Mo_blind_35 (d + 2) 208 (nI g) x2 (nI (B + cnt (fun r => apB v g p r) p)) x4 (nI (p + 1)) u6 u7 w8 w9 m
  | 0, r, e => by
    have hp := hv.p
    obtain rfl : r = p := by omega
    refine ⟨.int x6, .int (nI r), ?_⟩
    rw [Mo_blind_175_e _ _ _ _ _ _ _ _ _ _ _ _ kd_208, if_pos (by rw [n_le (by omega) (by omega)]; omega), nI_1]
  | j + 1, r, e => by
    have hp := hv.p
    have hs := h.sk
    have hr : r < nP v := by omega
    obtain ⟨q1, q2, q3⟩ := hom_r hv h hpn
    obtain ⟨r1, r2, r3⟩ := hom_r hv h hr
    have p1 := pe_lt hv p
    have p2 := pe_lt hv r
    have hal : apa (peB v p) (peB v r) ≤ 180 := apa_le _ _
    obtain ⟨u6, u7, ih⟩ := Mo_blind_175_s hv h d hg hpn x2 x4 x6 B w8 w9 j (r + 1) (by omega)
    have es : cnt (fun r => apB v g p r) (r + 1) = cnt (fun r => apB v g p r) r + (if apB v g p r = true then 1 else 0) := rfl
    refine ⟨u6, u7, ?_⟩
    rw [Mo_blind_175_e _ _ _ _ _ _ _ _ _ _ _ _ kd_208, if_neg (by rw [n_le (by omega) (by omega)]; omega), rf_208_13 hs, bR_s, rf_208_14 hs, bR_s, ga_214 (by omega), n_cl (n := p) (by omega), q1, ga_213 (by omega), n_cl (n := hom v p) (by omega), q3, bR_s, bR_s, ga_214 (by omega), n_cl (n := r) (by omega), r1, ga_213 (by omega), n_cl (n := hom v r) (by omega), r3, Mo_apart_s (by omega) p1 p2, bI_y, nI_1, nI_1, ← ih, es]
    by_cases z : apa (peB v p) (peB v r) ≤ g
    · rw [if_neg (by rw [n_lt (by omega) (by omega)]; omega), if_pos (show apB v g p r = true from decide_eq_true z)]; rfl
    · rw [if_pos (by rw [n_lt (by omega) (by omega)]; omega), if_neg (show ¬ apB v g p r = true from fun q => z (of_decide_eq_true q)), show (0 : Int32) = nI 0 from rfl, nI_add]; rfl
theorem Mo_blind_35_s {v : eV} (hv : Va v) {m : eM} (h : Mp v m) (d : Nat) {g : Nat} (hg : g ≤ 180) (x2 : Int32) : ∀ j p w6 w7 w8 w9, p + j = nP v → Mo_blind_35 (d + 2) 208 (nI g) x2 (nI (blP v g p)) (nI (blM v g p)) (nI p) w6 w7 w8 w9 m = yI (nI (if x2 = 0 then blP v g (nP v) else blM v g (nP v))) m
  | 0, p, w6, w7, w8, w9, e => by
    have hp := hv.p
    have hs := h.sk
    rw [Mo_blind_35_e _ _ _ _ _ _ _ _ _ _ _ _ kd_208, rf_208_10 hs, bR_s, show ∀ {o : oX}, ga m 210 20 2 o = o from ga_210 (n := 2) (by decide), show (2 : Int32).toNatClampNeg = 2 from rfl, mp_p h, if_pos (by rw [n_le (by omega) (by omega)]; omega), show nP v = p by omega]
    by_cases z : x2 = 0
    · rw [if_neg (fun q => q z), if_pos z]
    · rw [if_pos z, if_neg z]
  | j + 1, p, w6, w7, w8, w9, e => by
    have hp := hv.p
    have hs := h.sk
    have hpn : p < nP v := by omega
    have hb := blM_le v g p
    have hb2 := pcN_le (crS (apB v g) (nP v) p 6)
    obtain ⟨u8, u9, e1⟩ := Mo_blind_55_s hv h d hg hpn x2 (nI (blP v g p)) (nI (blM v g p)) (nI p) 6 0 (2 ^ p) w8 w9 (by omega) (Nat.pow_lt_pow_right (by decide) hpn) (fun i hi => crS_0 (apB_r v g) hpn hi) (fun i hi => hi)
    have em : blM v g (p + 1) = max (blM v g p) (pcN (crS (apB v g) (nP v) p 6)) := rfl
    rw [iMax_n (by omega) (by omega), ← em] at e1
    obtain ⟨u6, u7, e2⟩ := Mo_blind_175_s hv h d hg hpn x2 (nI (blM v g (p + 1))) (nI (crS (apB v g) (nP v) p 6)) (blP v g p) u8 u9 p 0 (by omega)
    have ep : blP v g (p + 1) = blP v g p + cnt (fun r => apB v g p r) p := rfl
    rw [← ep] at e2
    rw [Mo_blind_35_e _ _ _ _ _ _ _ _ _ _ _ _ kd_208, rf_208_10 hs, bR_s, show ∀ {o : oX}, ga m 210 20 2 o = o from ga_210 (n := 2) (by decide), show (2 : Int32).toNatClampNeg = 2 from rfl, mp_p h, if_neg (by rw [n_le (by omega) (by omega)]; omega), shl1 _ (by omega)]
    exact (e1.trans e2).trans (Mo_blind_35_s hv h d hg x2 j (p + 1) u6 u7 u8 u9 (by omega))
theorem Mo_blind_s {v : eV} (hv : Va v) {D : Nat} (hD : 3 ≤ D) {m : eM} (h : Mp v m) (g w : Int32) : ∃ m', Fr sQ m m' ∧ Mo_blind D 208 g w m = yI (sp_blind v g w) m' := by
  obtain ⟨d, rfl⟩ : ∃ d, D = d + 3 := ⟨D - 3, by omega⟩
  have h0 := th0 h
  refine ⟨_, f0, ?_⟩
  rw [Mo_blind_e _ _ _ _ _ kd_208, mI_u, l_180, Mo_within_s _ _ (by decide), br0, Mo_within_1, br1]
  unfold sp_blind
  by_cases z1 : inN g 181 = true
  · rw [if_pos z1, if_pos z1]
    by_cases z2 : inN w 2 = true
    · rw [if_pos z2, if_pos z2]
      obtain ⟨k, hk, rfl⟩ := inN_of (by decide) z1
      rw [n_cl (by omega)]
      exact Mo_blind_35_s hv h0 (d + 1) (by omega) w (nP v) 0 eU eU eU eU (by omega)
    · rw [if_neg z2, if_neg z2]
  · rw [if_neg z1, if_neg z1]
