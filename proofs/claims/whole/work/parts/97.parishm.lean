/-! ===== parish: the reference ===== -/
theorem stL_w {s : eTp} {u : eV} {b n b' : Nat} (h : stL s u b n = .inr b') : n < 6 ∧ tW s b' < 27 ^ 8 := by
  obtain ⟨h1, h2, -, rfl⟩ := stL_i h
  exact ⟨h1, tW_lt (tkN_k h2).1⟩
theorem lnA_V {s : eTp} {u : eV} {b : Nat} {r : Nat × eV} (hV : Vu u) (h : lnA s u b = .inr r) : Vu r.2 := by
  unfold lnA at h
  split at h
  · obtain ⟨b1, h1, h2⟩ := sb_i h
    obtain ⟨w1, w2⟩ := stL_w h1
    by_cases z : tkW s (tX s b1) 47328224 = true
    · rw [if_pos z] at h2
      obtain ⟨b4, h4, h5⟩ := sb_i h2
      obtain ⟨b5, h6, h7⟩ := sb_i h5
      cases h7
      exact Vu_fact hV w1 (rqN_i h4).2.1 w2
    · rw [if_neg z] at h2
      obtain ⟨b5, h6, h7⟩ := sb_i h2
      cases h7
      exact Vu_fact hV w1 (by decide) w2
  · split at h
    · obtain ⟨b1, h1, h2⟩ := sb_i h
      obtain ⟨w1, w2⟩ := stL_w h1
      obtain ⟨b3, h3, h4⟩ := sb_i h2
      obtain ⟨b4, h5, h6⟩ := sb_i h4
      obtain ⟨b5, h7, h8⟩ := sb_i h6
      cases h8
      exact Vu_plac hV w1 (by have := (rqN_i h5).2.1; omega) w2
    · split at h
      · obtain ⟨b1, h1, h2⟩ := sb_i h
        obtain ⟨w1, w2⟩ := stL_w h1
        obtain ⟨b3, h3, h4⟩ := sb_i h2
        by_cases z : tkN s b3 = true
        · rw [if_pos z] at h4
          cases y : fnd (plc u) (nPl u) (tW s b3) with
          | none => rw [y] at h4; cases h4
          | some i =>
            rw [y] at h4
            obtain ⟨b5, h5, h6⟩ := sb_i h4
            obtain ⟨x, h7, h8⟩ := sb_i h6
            obtain ⟨b6, h9, h10⟩ := sb_i h8
            cases h10
            exact Vu_pers hV w1 (fnd_lt y) (knL_k 7 _ _ x (Nat.two_pow_pos _) h7) w2
        · rw [if_neg z] at h4; cases h4
      · split at h
        · unfold lnCm at h
          by_cases z : 4 ≤ nCm u
          · rw [if_pos z] at h; cases h
          · rw [if_neg z] at h
            obtain ⟨g, h1, h2⟩ := sb_i h
            obtain ⟨b5, h3, h4⟩ := sb_i h2
            cases h4
            exact Vu_comm hV (by omega) (pE_D h1)
        · split at h
          · obtain ⟨b2, h1, h2⟩ := sb_i h
            by_cases z : tol u (tN s (tX s b)) = 1
            · rw [if_pos z] at h2; cases h2
            · rw [if_neg z] at h2
              obtain ⟨b3, h3, h4⟩ := sb_i h2
              obtain ⟨b4, h5, h6⟩ := sb_i h4
              obtain ⟨b5, h7, h8⟩ := sb_i h6
              obtain ⟨b6, h9, h10⟩ := sb_i h8
              obtain ⟨b7, h11, h12⟩ := sb_i h10
              cases h12
              exact Vu_cock hV (by have := (rqN_i h1).2.1; omega) (rqN_i h5).2.1 (rqN_i h9).2.1
          · cases h
theorem lns_V {s : eTp} : ∀ k b u r, Vu u → lns s k b u = .inr r → Vu r.2
  | 0, b, u, r, hV, h => by cases h; exact hV
  | k + 1, b, u, r, hV, h => by
    by_cases z : tK s b = 0
    · rw [lns_0 z] at h; cases h; exact hV
    · cases y : lnA s u b with
      | inl e => rw [lns_e z y] at h; cases h
      | inr x =>
        rw [lns_s z y] at h
        exact lns_V k _ _ r (lnA_V hV y) h
theorem Mo_readsParish_81_s {s : eTp} (d : Nat) (hd : 6 ≤ d) : ∀ k b u x1 m, s.1 ≤ tB s b + k → PT s b m → Mu u m → Vu u → liM s m (Mo_readsParish_81 (d + 1) 208 x1 m) (lns s k b u) := fun k => by
  have done : ∀ k b u x1 m, tK s b = 0 → PT s b m → Mu u m → lns s k b u = .inr (b, u) → liM s m (Mo_readsParish_81 (d + 1) 208 x1 m) (lns s k b u) := fun k b u x1 m z h hu hl => by
    rw [hl, Mo_readsParish_81_e _ _ _ _ kd_208, h.2.1.2.1, if_pos (by rw [mK_0.mpr z]; rfl)]
    exact ⟨fun r q => (by cases q; exact ⟨m, Fr.rfl', rfl, h, hu⟩), fun e q => (by cases q)⟩
  induction k with
  | zero =>
    intro b u x1 m hb h hu hV
    have z : tK s b = 0 := by
      by_cases z : tK s b = 0
      · exact z
      · have := (tX_lt z).2; omega
    exact done 0 b u x1 m z h hu rfl
  | succ k ih =>
    intro b u x1 m hb h hu hV
    by_cases z : tK s b = 0
    · exact done (k + 1) b u x1 m z h hu (lns_0 z)
    · have hk := mK_lt s b
      have nx : ∀ F : oX, liM s m F (lnA s u b) → liM s m (bI F fun v m' => if ¬ v = 0 then (Mo_readsParish_81 (d + 1) 208 v m') else (yI 0 m')) (lns s (k + 1) b u) := fun F hF => by
        cases y : lnA s u b with
        | inl e1 =>
          obtain ⟨m1, f1, a1, r1⟩ := hF.2 e1 y
          rw [a1, bI_y, k0a, lns_e z y]
          exact lm_e f1 rfl r1
        | inr r =>
          obtain ⟨m1, f1, a1, c1, u1⟩ := hF.1 r y
          rw [a1, bI_y, k1a, lns_s z y]
          have hA := lnA_a h.2.2.1 z y
          exact liM.up f1 (ih r.1 r.2 1 m1 (by have := hA.2; omega) c1 u1 (lnA_V hV y))
      rw [Mo_readsParish_81_e _ _ _ _ kd_208, h.2.1.2.1, if_neg (show ¬ nI (mK s b) = 0 by rw [show (0 : Int32) = nI 0 from rfl, n_eq (by omega) (by omega)]; exact fun q => z (mK_0.mp q)), show (118928 : Int64) = lN 118928 from rfl, show (8740067 : Int64) = lN 8740067 from rfl, show (232608281 : Int64) = lN 232608281 from rfl, show (70076 : Int64) = lN 70076 from rfl, show (51284111 : Int64) = lN 51284111 from rfl, Mo_isWord_s h.2.1 (by decide), bI_y]
      by_cases z1 : tkW s b 118928 = true
      · rw [z1, if_neg bt0]
        refine nx _ ?_
        have : lnA s u b = lnF s u b := by unfold lnA; rw [if_pos z1]
        rw [this]
        exact Mo_readsFact_s h hu hV (by omega)
      · rw [Bool.eq_false_iff.mpr z1, if_pos bf0, Mo_isWord_s h.2.1 (by decide), bI_y]
        by_cases z2 : tkW s b 8740067 = true
        · rw [z2, if_neg bt0]
          refine nx _ ?_
          have : lnA s u b = lnPl s u b := by unfold lnA; rw [if_neg z1, if_pos z2]
          rw [this]
          exact Mo_readsPlace_s h hu hV (by omega)
        · rw [Bool.eq_false_iff.mpr z2, if_pos bf0, Mo_isWord_s h.2.1 (by decide), bI_y]
          by_cases z3 : tkW s b 232608281 = true
          · rw [z3, if_neg bt0]
            refine nx _ ?_
            have : lnA s u b = lnPe s u b := by unfold lnA; rw [if_neg z1, if_neg z2, if_pos z3]
            rw [this]
            exact Mo_readsPerson_s h hu hV (by omega)
          · rw [Bool.eq_false_iff.mpr z3, if_pos bf0, Mo_isWord_s h.2.1 (by decide), bI_y]
            by_cases z5 : tkW s b 70076 = true
            · rw [z5, if_neg bt0]
              refine nx _ ?_
              have z4 : ¬ tkW s b 51284111 = true := fun q => by rw [tkW_1 z5 (by decide)] at q; cases q
              have : lnA s u b = lnCk s u b := by unfold lnA; rw [if_neg z1, if_neg z2, if_neg z3, if_neg z4, if_pos z5]
              rw [this]
              exact Mo_readsCock_s h hu hV (by omega)
            · rw [Bool.eq_false_iff.mpr z5, if_pos bf0, Mo_isWord_s h.2.1 (by decide), bI_y]
              by_cases z4 : tkW s b 51284111 = true
              · rw [z4, if_neg bt0]
                refine nx _ ?_
                have : lnA s u b = lnCm s u b := by unfold lnA; rw [if_neg z1, if_neg z2, if_neg z3, if_pos z4]
                rw [this]
                exact Mo_readsCommon_s h hu hV (by omega)
              · rw [Bool.eq_false_iff.mpr z4, if_pos bf0]
                refine nx _ ?_
                have : lnA s u b = .inl (er s b 1) := by unfold lnA; rw [if_neg z1, if_neg z2, if_neg z3, if_neg z4, if_neg z5]
                rw [this, show (1 : Int32) = nI 1 from rfl]
                exact lm_e (h.bad 1 d).2 (h.bad 1 d).1 (gI_w _ _ _ _)
/-! the start -/
theorem Mo_rp_2_s (d : Nat) : ∀ j k m, k + j = 6 → 3 ≤ k → Sk m → (∀ i, 3 ≤ i → i < k → gI m 210 i = 0) → ∃ m', Fr (fun a j => a == 210 && decide (3 ≤ j)) m m' ∧ Mo_readsParish_2 (d + 1) 208 (nI k) m = Mo_readsParish_28 (d + 1) 208 (0 : Int32) (sI m' 208 38 0) ∧ ∀ i, 3 ≤ i → i < 6 → gI m' 210 i = 0
  | 0, k, m, e, hk, hs, h => by
    refine ⟨m, Fr.rfl', ?_, by rw [show k = 6 by omega] at h; exact h⟩
    rw [Mo_readsParish_2_e _ _ _ _ kd_208, if_pos (by rw [show (6 : Int32) = nI 6 from rfl, n_le (by omega) (by omega)]; omega), mI_u]
  | j + 1, k, m, e, hk, hs, h => by
    obtain ⟨m', f, e2, h2⟩ := Mo_rp_2_s d j (k + 1) (sI m 210 k 0) (by omega) (by omega) hs (fun i h1 h2 => by
      rw [gI_sI]
      by_cases z : i = k
      · rw [if_pos ⟨rfl, z⟩]
      · rw [if_neg (fun q => z q.2)]; exact h i h1 (by omega))
    refine ⟨m', (Fr.rfl'.i (a := 210) (j := k) (v := 0) (by simp; exact hk)).tr f, ?_, h2⟩
    rw [← e2, Mo_readsParish_2_e _ _ _ _ kd_208, if_neg (by rw [show (6 : Int32) = nI 6 from rfl, n_le (by omega) (by omega)]; omega), rf_208_10 hs, bR_s, gw_210 (by omega), mI_u, n_cl (by omega), nI_1]
def rpM (c : Nat) (m : eM) : eM := sI (sI (sI (sI m 216 (2 + c) 0) 217 (2 + c) 0) 218 (2 + c) (if c = 0 then 1 else 0)) 235 c 0
theorem Mo_rp_28_s (d : Nat) {m : eM} (hs : Sk m) {c : Nat} (hc : c < 2) : Mo_readsParish_28 (d + 1) 208 (nI c) m = Mo_readsParish_28 (d + 1) 208 (nI (c + 1)) (rpM c m) := by
  rw [Mo_readsParish_28_e _ _ _ _ kd_208, if_neg (by rw [show (2 : Int32) = nI 2 from rfl, n_le (by omega) (by omega)]; omega), rf_208_16 hs, bR_s, show (2 : Int32) = nI 2 from rfl, nI_add, gw_216 (by omega), mI_u, n_cl (by omega), gR_sI, rf_208_17 hs, bR_s, gw_217 (by omega), mI_u, gR_sI, gR_sI, rf_208_18 hs, bR_s, nI_1]
  rcases (by omega : c = 0 ∨ c = 1) with z | z
  · subst z
    rw [if_neg (show ¬ ¬ nI 0 = 0 from fun q => q rfl), gw_218 (by decide), mI_u, gR_sI, gR_sI, gR_sI, rf_208_36 hs, bR_s, gw_235 (by decide), mI_u]
    rfl
  · subst z
    rw [if_pos (show ¬ nI 1 = 0 by decide), gw_218 (by decide), mI_u, gR_sI, gR_sI, gR_sI, rf_208_36 hs, bR_s, gw_235 (by decide), mI_u]
    rfl
theorem rpM_g (c : Nat) (m : eM) : (gI (rpM c m) 216 (2 + c) = 0 ∧ gI (rpM c m) 217 (2 + c) = 0 ∧ gI (rpM c m) 218 (2 + c) = (if c = 0 then 1 else 0) ∧ gI (rpM c m) 235 c = 0) ∧ ∀ x, x ≠ c → gI (rpM c m) 216 (2 + x) = gI m 216 (2 + x) ∧ gI (rpM c m) 217 (2 + x) = gI m 217 (2 + x) ∧ gI (rpM c m) 218 (2 + x) = gI m 218 (2 + x) ∧ gI (rpM c m) 235 x = gI m 235 x := by
  unfold rpM
  refine ⟨⟨?_, ?_, ?_, gI_w _ _ _ _⟩, fun x hx => ⟨?_, ?_, ?_, ?_⟩⟩
  · rw [gI_sI, if_neg (by omega), gI_sI, if_neg (by omega), gI_sI, if_neg (by omega), gI_w]
  · rw [gI_sI, if_neg (by omega), gI_sI, if_neg (by omega), gI_w]
  · rw [gI_sI, if_neg (by omega), gI_w]
  · rw [gI_sI, if_neg (by omega), gI_sI, if_neg (by omega), gI_sI, if_neg (by omega), gI_sI, if_neg (by omega)]
  · rw [gI_sI, if_neg (by omega), gI_sI, if_neg (by omega), gI_sI, if_neg (by omega), gI_sI, if_neg (by omega)]
  · rw [gI_sI, if_neg (by omega), gI_sI, if_neg (by omega), gI_sI, if_neg (by omega), gI_sI, if_neg (by omega)]
  · rw [gI_sI, if_neg (by omega), gI_sI, if_neg (by omega), gI_sI, if_neg (by omega), gI_sI, if_neg (by omega)]
theorem Mo_readsParish_s {s : eTp} {m : eM} (h : PT s 0 m) {D : Nat} (hD : 8 ≤ D) : liM s m (Mo_readsParish D 208 m) (pR s) := by
  obtain ⟨d, rfl⟩ : ∃ d, D = d + 1 := ⟨D - 1, by omega⟩
  have hs := h.1.1
  obtain ⟨m1, f1, e1, z1⟩ := Mo_rp_2_s d 3 3 m rfl (Nat.le_refl _) hs (fun i h1 h2 => by omega)
  obtain ⟨m2, hm2⟩ : ∃ m2, m2 = sI m1 208 38 0 := ⟨_, rfl⟩
  have s1 := f1.sk hs
  have s2 : Sk m2 := by rw [hm2]; exact s1
  have s3 : Sk (rpM 0 m2) := s2
  obtain ⟨m4, hm4⟩ : ∃ m4, m4 = rpM 1 (rpM 0 m2) := ⟨_, rfl⟩
  have f4 : Fr (fun a j => (a == 216 || a == 217 || a == 218) && decide (2 ≤ j) || a == 235) m2 m4 := by
    rw [hm4]
    unfold rpM
    exact (((((((Fr.rfl'.i rfl).i rfl).i rfl).i rfl).i rfl).i rfl).i rfl).i rfl
  have f2 : Fr (fun a j => a == 208 && j == 38) m1 m2 := by rw [hm2]; exact Fr.rfl'.i rfl
  have fN : Fr sNr m m4 := by
    refine ((f1.up fun a j q => ?_).tr (f2.up fun a j q => ?_)).tr (f4.up fun a j q => ?_)
    all_goals (have := of_decide_eq_false q; simp; omega)
  have c4 : PT s 0 m4 := ((h.fr f1 (fun _ _ => rfl) (fun _ => rfl) rfl).fr f2 (fun j hj => (by simp; omega)) (fun _ => rfl) rfl).fr f4 (fun _ _ => rfl) (fun _ => rfl) rfl
  have u4 : Mu u0 m4 := by
    have k : ∀ i, 3 ≤ i → i < 6 → gI m4 210 i = 0 := fun i h1 h2 => by
      rw [f4.1 210 i (by simp), f2.1 210 i (by simp)]; exact z1 i h1 h2
    refine ⟨⟨k 3 (by decide) (by decide), k 4 (by decide) (by decide), k 5 (by decide) (by decide), ?_⟩, fun j hj => absurd hj (Nat.not_lt_zero j), fun j hj => absurd hj (Nat.not_lt_zero j), fun j hj => absurd hj (Nat.not_lt_zero j), fun c hc => ?_, fun j hj => absurd hj (Nat.not_lt_zero j)⟩
    · rw [f4.1 208 38 (by simp), hm2, gI_w]; rfl
    · rw [hm4]
      rcases (by omega : c = 0 ∨ c = 1) with z | z
      · subst z
        obtain ⟨g1, g2, g3, g4⟩ := (rpM_g 1 (rpM 0 m2)).2 0 (by decide)
        obtain ⟨h1, h2, h3, h4⟩ := (rpM_g 0 m2).1
        rw [g1, g2, g3, g4, h1, h2, h3, h4]
        exact ⟨rfl, rfl, rfl, rfl⟩
      · subst z
        obtain ⟨h1, h2, h3, h4⟩ := (rpM_g 1 (rpM 0 m2)).1
        rw [h1, h2, h3, h4]
        exact ⟨rfl, rfl, rfl, rfl⟩
  have eq : Mo_readsParish (d + 1) 208 m = Mo_readsParish_81 (d + 1) 208 (nI 2) m4 := by
    have e1 : Mo_readsParish_2 (d + 1) 208 (3 : Int32) m = _ := e1
    rw [Mo_readsParish_e _ _ _ kd_208, e1, ← hm2, show (0 : Int32) = nI 0 from rfl, Mo_rp_28_s d s2 (by decide), Mo_rp_28_s d s3 (by decide), ← hm4, Mo_readsParish_28_e _ _ _ _ kd_208, if_pos (by decide)]
  rw [eq]
  exact liM.up fN (Mo_readsParish_81_s d (by omega) 1000 0 u0 (nI 2) m4 (by have := h.1.2.2.1; omega) c4 u4 Vu_0)
/-! what was told becomes what is -/
def sCp (a _ : Nat) : Bool := decide (210 ≤ a ∧ a ≤ 219)
theorem Mo_cp_23_s (d : Nat) : ∀ j k m, k + j = 3 → Sk m → (∀ i, i < k → gI m 210 i = gI m 210 (3 + i)) → ∃ m', Fr (fun a j => a == 210 && decide (j < 3)) m m' ∧ Mo_parish_23 (d + 1) 208 (nI k) m = Mo_parish_50 (d + 1) 208 (nI 0) m' ∧ ∀ i, i < 3 → gI m' 210 i = gI m' 210 (3 + i)
  | 0, k, m, e, hs, h => by
    refine ⟨m, Fr.rfl', ?_, by rw [show k = 3 by omega] at h; exact h⟩
    rw [Mo_parish_23_e _ _ _ _ kd_208, if_pos (by rw [show (3 : Int32) = nI 3 from rfl, n_le (by omega) (by omega)]; omega)]
    rfl
  | j + 1, k, m, e, hs, h => by
    obtain ⟨m', f, e2, h2⟩ := Mo_cp_23_s d j (k + 1) (sI m 210 k (gI m 210 (3 + k))) (by omega) hs (fun i hi => by
      rw [gI_sI, gI_sI, if_neg (show ¬ (210 = 210 ∧ 3 + i = k) by omega)]
      by_cases z : i = k
      · rw [if_pos ⟨rfl, z⟩, z]
      · rw [if_neg (fun q => z q.2)]; exact h i (by omega))
    refine ⟨m', (Fr.rfl'.i (a := 210) (j := k) (v := gI m 210 (3 + k)) (by simp; omega)).tr f, ?_, h2⟩
    rw [← e2, Mo_parish_23_e _ _ _ _ kd_208, if_neg (by rw [show (3 : Int32) = nI 3 from rfl, n_le (by omega) (by omega)]; omega), rf_208_10 hs, bR_s, bR_s, show (3 : Int32) = nI 3 from rfl, nI_add, ga_210 (by omega), gw_210 (by omega), mI_u, n_cl (by omega), n_cl (by omega), nI_1]
theorem Mo_cp_50_s (d : Nat) : ∀ j k m, k + j = 18 → Sk m → (∀ i, i < k → gL m 211 i = gL m 211 (18 + i)) → ∃ m', Fr (fun a j => a == 211 && decide (j < 18)) m m' ∧ Mo_parish_50 (d + 1) 208 (nI k) m = Mo_parish_79 (d + 1) 208 (nI 0) m' ∧ ∀ i, i < 18 → gL m' 211 i = gL m' 211 (18 + i)
  | 0, k, m, e, hs, h => by
    refine ⟨m, Fr.rfl', ?_, by rw [show k = 18 by omega] at h; exact h⟩
    rw [Mo_parish_50_e _ _ _ _ kd_208, if_pos (by rw [show (18 : Int32) = nI 18 from rfl, n_le (by omega) (by omega)]; omega)]
    rfl
  | j + 1, k, m, e, hs, h => by
    obtain ⟨m', f, e2, h2⟩ := Mo_cp_50_s d j (k + 1) (sL m 211 k (gL m 211 (18 + k))) (by omega) hs (fun i hi => by
      rw [gL_sL, gL_sL, if_neg (show ¬ (211 = 211 ∧ 18 + i = k) by omega)]
      by_cases z : i = k
      · rw [if_pos ⟨rfl, z⟩, z]
      · rw [if_neg (fun q => z q.2)]; exact h i (by omega))
    refine ⟨m', (Fr.rfl'.l (a := 211) (j := k) (v := gL m 211 (18 + k)) (by simp; omega)).tr f, ?_, h2⟩
    rw [← e2, Mo_parish_50_e _ _ _ _ kd_208, if_neg (by rw [show (18 : Int32) = nI 18 from rfl, n_le (by omega) (by omega)]; omega), rf_208_11 hs, bR_s, bR_s, show (18 : Int32) = nI 18 from rfl, nI_add, ga_211 (by omega), gw_211 (by omega), mJ_u, n_cl (by omega), n_cl (by omega), nI_1]
def cpM (k : Nat) (m : eM) : eM := sI (sI (sI (sI m 212 k (gI m 212 (6 + k))) 213 k (gI m 213 (6 + k))) 214 k (gI m 214 (6 + k))) 215 k (gI m 215 (6 + k))
theorem cpM_g {k : Nat} (hk : k < 6) (m : eM) {a : Nat} (ha : 212 ≤ a ∧ a ≤ 215) (i : Nat) : gI (cpM k m) a i = if i = k then gI m a (6 + k) else gI m a i := by
  unfold cpM
  rcases (by omega : a = 212 ∨ a = 213 ∨ a = 214 ∨ a = 215) with z | z | z | z <;> subst z <;> by_cases y : i = k <;> simp [gI_sI, y]
theorem Mo_cp_79_s (d : Nat) : ∀ j k m, k + j = 6 → Sk m → (∀ i, i < k → ∀ a, 212 ≤ a → a ≤ 215 → gI m a i = gI m a (6 + i)) → ∃ m', Fr (fun a j => decide (212 ≤ a ∧ a ≤ 215 ∧ j < 6)) m m' ∧ Mo_parish_79 (d + 1) 208 (nI k) m = Mo_parish_153 (d + 1) 208 (nI 0) m' ∧ ∀ i, i < 6 → ∀ a, 212 ≤ a → a ≤ 215 → gI m' a i = gI m' a (6 + i)
  | 0, k, m, e, hs, h => by
    refine ⟨m, Fr.rfl', ?_, by rw [show k = 6 by omega] at h; exact h⟩
    rw [Mo_parish_79_e _ _ _ _ kd_208, if_pos (by rw [show (6 : Int32) = nI 6 from rfl, n_le (by omega) (by omega)]; omega)]
    rfl
  | j + 1, k, m, e, hs, h => by
    obtain ⟨m', f, e2, h2⟩ := Mo_cp_79_s d j (k + 1) (cpM k m) (by omega) hs (fun i hi a h1 h2 => by
      rw [cpM_g (by omega) m ⟨h1, h2⟩, cpM_g (by omega) m ⟨h1, h2⟩, if_neg (show ¬ 6 + i = k by omega)]
      by_cases z : i = k
      · rw [if_pos z, z]
      · rw [if_neg z]; exact h i (by omega) a h1 h2)
    have fC : Fr (fun a j => decide (212 ≤ a ∧ a ≤ 215 ∧ j < 6)) m (cpM k m) := by
      unfold cpM
      exact (((Fr.rfl'.i (decide_eq_true (by omega))).i (decide_eq_true (by omega))).i (decide_eq_true (by omega))).i (decide_eq_true (by omega))
    refine ⟨m', fC.tr f, ?_, h2⟩
    rw [← e2, Mo_parish_79_e _ _ _ _ kd_208, if_neg (by rw [show (6 : Int32) = nI 6 from rfl, n_le (by omega) (by omega)]; omega), show (6 : Int32) = nI 6 from rfl, rf_208_12 hs, bR_s, bR_s, nI_add, ga_212 (by omega), gw_212 (by omega), mI_u, n_cl (by omega), n_cl (by omega), gR_sI, rf_208_13 hs, bR_s, bR_s, ga_213 (by omega), gw_213 (by omega), mI_u, gR_sI, gR_sI, rf_208_14 hs, bR_s, bR_s, ga_214 (by omega), gw_214 (by omega), mI_u, gR_sI, gR_sI, gR_sI, rf_208_15 hs, bR_s, bR_s, ga_215 (by omega), gw_215 (by omega), mI_u, nI_1]
    rfl
def cqM (k : Nat) (m : eM) : eM := sI (sI (sI m 216 k (gI m 216 (2 + k))) 217 k (gI m 217 (2 + k))) 218 k ((gI m 218 (2 + k)) &&& 1)
theorem Mo_cp_153_s (d : Nat) {m : eM} (hs : Sk m) {k : Nat} (hk : k < 2) : Mo_parish_153 (d + 1) 208 (nI k) m = Mo_parish_153 (d + 1) 208 (nI (k + 1)) (cqM k m) := by
  rw [Mo_parish_153_e _ _ _ _ kd_208, if_neg (by rw [show (2 : Int32) = nI 2 from rfl, n_le (by omega) (by omega)]; omega), show (2 : Int32) = nI 2 from rfl, rf_208_16 hs, bR_s, bR_s, nI_add, ga_216 (by omega), gw_216 (by omega), mI_u, n_cl (by omega), n_cl (by omega), gR_sI, rf_208_17 hs, bR_s, bR_s, ga_217 (by omega), gw_217 (by omega), mI_u, gR_sI, gR_sI, rf_208_18 hs, bR_s, bR_s, ga_218 (by omega), gw_218 (by omega), mI_u, nI_1]
  rfl
theorem cqM_g (k : Nat) (m : eM) : (gI (cqM k m) 216 k = gI m 216 (2 + k) ∧ gI (cqM k m) 217 k = gI m 217 (2 + k) ∧ gI (cqM k m) 218 k = (gI m 218 (2 + k)) &&& 1) ∧ ∀ x a, x ≠ k → gI (cqM k m) a x = gI m a x := by
  unfold cqM
  refine ⟨⟨?_, ?_, gI_w _ _ _ _⟩, fun x a hx => ?_⟩
  · rw [gI_sI, if_neg (by omega), gI_sI, if_neg (by omega), gI_w]
  · rw [gI_sI, if_neg (by omega), gI_w]
  · rw [gI_sI, if_neg (by omega), gI_sI, if_neg (by omega), gI_sI, if_neg (by omega)]
theorem Mo_cp_226_s (d : Nat) {u : eV} {W : Nat} (hC : nCm u ≤ 4) : ∀ j k m, k + j = nCm u → Sk m → gI m 208 37 = nI (nCm u) → (∀ i, i < nCm u → gL m 236 i = cmS u i) → (∀ w, w < 64 → tb (gL m 219 0) w = (decide (w < W) && decide (∀ i, i < k → tb (cmS u i) w = true))) → ∃ m', Fr (fun a j => a == 219 && j == 0) m m' ∧ Mo_parish_226 (d + 1) 208 (nI k) m = yI 0 (sI (sI (sI (sI (sI m' 208 40 0) 208 41 0) 208 42 0) 208 43 0) 208 44 0) ∧ ∀ w, w < 64 → tb (gL m' 219 0) w = (decide (w < W) && decide (∀ i, i < nCm u → tb (cmS u i) w = true))
  | 0, k, m, e, hs, h37, h236, h => by
    refine ⟨m, Fr.rfl', ?_, by rw [show k = nCm u by omega] at h; exact h⟩
    rw [Mo_parish_226_e _ _ _ _ kd_208, h37, if_pos (by rw [n_le (by omega) (by omega)]; omega), mI_u, mI_u, mI_u, mI_u, mI_u]
  | j + 1, k, m, e, hs, h37, h236, h => by
    obtain ⟨m', f, e2, h2⟩ := Mo_cp_226_s d hC j (k + 1) (sL m 219 0 (gL m 219 0 &&& cmS u k)) (by omega) hs h37 (fun i hi => (by rw [gL_sL, if_neg (by omega)]; exact h236 i hi)) (fun w hw => by
      rw [gL_w, t_and, h w hw, Bool.and_assoc]
      congr 1
      cases z : tb (cmS u k) w with
      | true =>
        rw [Bool.and_true]
        exact decide_eq_decide.mpr ⟨fun q i hi => by
          by_cases y : i = k
          · rw [y]; exact z
          · exact q i (by omega), fun q i hi => q i (by omega)⟩
      | false =>
        rw [Bool.and_false]
        refine (decide_eq_false fun q => ?_).symm
        rw [q k (by omega)] at z; cases z)
    refine ⟨m', (Fr.rfl'.l (a := 219) (j := 0) (v := gL m 219 0 &&& cmS u k) (by simp)).tr f, ?_, h2⟩
    rw [← e2, Mo_parish_226_e _ _ _ _ kd_208, h37, if_neg (by rw [n_le (by omega) (by omega)]; omega), rf_208_19 hs, bR_s, show (0 : Int32) = nI 0 from rfl, ga_219 (by decide), rf_208_39 hs, bR_s, ga_236 (by omega), gw_219 (by decide), mJ_u, n_cl (by decide), n_cl (by omega), h236 k (by omega), nI_1]
theorem Mo_aw_s (d : Nat) {m : eM} (hs : Sk m) {n : Nat} (hn : n ≤ 6) (h : gI m 210 0 = nI n) : Mo_allWorlds d 208 m = yL (mk fun w => decide (w < 2 ^ n)) m := by
  rw [Mo_allWorlds_e _ _ _ kd_208, rf_208_10 hs, bR_s, show (0 : Int32) = nI 0 from rfl, ga_210 (by decide), n_cl (by decide), h]
  by_cases z : n = 6
  · rw [if_neg (fun q => q (by rw [z]; rfl)), z, ← all_6]
  · rw [if_pos (by rw [show (6 : Int32) = nI 6 from rfl, n_eq (by omega) (by omega)]; exact z), bR_s, ga_210 (by decide), h, all_w n (by omega)]
/-- some view is held -/
theorem nI_to (x : Int32) : nI x.toBitVec.toNat = x := Int32.toBitVec_inj.mp (by
  show BitVec.ofNat 32 _ = _
  simp)
theorem lN_to (x : Int64) : lN x.toBitVec.toNat = x := Int64.toBitVec_inj.mp (by
  show BitVec.ofNat 64 _ = _
  simp)
theorem nI_un {n : Nat} (h : n < 4294967296) : (nI n).toBitVec.toNat = n := by
  show (BitVec.ofNat 32 n).toNat = n
  rw [BitVec.toNat_ofNat]; exact Nat.mod_eq_of_lt h
theorem lN_un {n : Nat} (h : n < 2 ^ 64) : (lN n).toBitVec.toNat = n := by
  show (BitVec.ofNat 64 n).toNat = n
  rw [BitVec.toNat_ofNat]; exact Nat.mod_eq_of_lt h
def vOf (m : eM) : eV := (fun a j => if a = 18 then (gL m 211 j).toBitVec.toNat else (gI m (ivI (a, j)).1 (ivI (a, j)).2).toBitVec.toNat, fun a j => if a = 1 then gL m 219 0 else gL m 239 j)
theorem vOf_mp {m : eM} (hs : Sk m) : Mp (vOf m) m := by
  refine ⟨hs, fun a j q hq => ?_, fun a j q hq => ?_, fun j hj => ?_⟩
  · obtain ⟨e1, e2⟩ := ivI_e hq
    show _ = nI (if q.1 = 18 then _ else (gI m (ivI (q.1, q.2)).1 (ivI (q.1, q.2)).2).toBitVec.toNat)
    rw [if_neg (by omega), show (q.1, q.2) = q from rfl, e1, nI_to]
  · show _ = if q.1 = 1 then gL m 219 0 else gL m 239 q.2
    unfold mpL at hq
    split at hq
    · rename_i z
      injection hq with hq
      rw [← hq, if_pos rfl, z.1, z.2]
    · split at hq
      · rename_i z
        injection hq with hq
        rw [← hq, if_neg (show ¬ (0 : Nat) = 1 by decide), z.1]
      · cases hq
  · show _ = lN (if (18 : Nat) = 18 then (gL m 211 j).toBitVec.toNat else (gI m (ivI (18, j)).1 (ivI (18, j)).2).toBitVec.toNat)
    rw [if_pos rfl, lN_to]
theorem vOf_i {m : eM} {a j n : Nat} {a' j' : Nat} (h : mpI a' j' = some (a, j)) (hm : gI m a' j' = nI n) (hn : n < 4294967296) : (vOf m).1 a j = n := by
  obtain ⟨e1, e2⟩ := ivI_e h
  show (if a = 18 then _ else (gI m (ivI (a, j)).1 (ivI (a, j)).2).toBitVec.toNat) = n
  rw [if_neg (by have : a < 18 := e2; omega), e1]
  show (gI m a' j').toBitVec.toNat = n
  rw [hm, nI_un hn]
theorem vOf_n {m : eM} {j n : Nat} (hm : gL m 211 j = lN n) (hn : n < 27 ^ 8) : nam (vOf m) j = n := by
  have e : nam (vOf m) j = (gL m 211 j).toBitVec.toNat := by
    show (if (18 : Nat) = 18 then (gL m 211 j).toBitVec.toNat else (gI m (ivI (18, j)).1 (ivI (18, j)).2).toBitVec.toNat) = _
    rw [if_pos rfl]
  rw [e, hm, lN_un (Nat.lt_trans hn (by decide))]
theorem Mo_parish_s {v : eV} {t : Nat} {tp : Nat → Nat} {V : Nat → Option eV} (hv : VI v t tp V) {m : eM} (h : MI v t tp V m) (h0 : gI m 221 0 = 0) {D : Nat} (hD : 12 ≤ D) : ∃ m' v', Fr sMx m m' ∧ Mo_parish D 208 m = yI (psA (pR (t, tp))) m' ∧ MI v' 0 tp V m' ∧ (∀ e, pR (t, tp) = .inl e → v' = v) ∧ (∀ r, pR (t, tp) = .inr r → Agr v' r.2 ∧ Vu r.2 ∧ Vb v') := by
  obtain ⟨d, rfl⟩ : ∃ d, D = d + 1 := ⟨D - 1, by omega⟩
  have hb30 := hv.1.2
  obtain ⟨hM, ⟨t1, t2⟩, hV⟩ := h
  obtain ⟨m1, hm1⟩ : ∃ m1, m1 = sI m 208 0 0 := ⟨_, rfl⟩
  have f1 : Fr sNw m m1 := by rw [hm1]; exact Fr.rfl'.i rfl
  obtain ⟨m2, f2, e2, z2, k2, c2, -, -⟩ := Mo_starts_s (D := d) (by omega) (m := m1) (f1.sk hM.sk) (by rw [hm1]; exact t1) (by rw [hm1]; exact t2) hv.2.1.1 hv.2.1.2
  have f12 := f1.tr f2
  have p2 : PT (t, tp) 0 m2 := ⟨⟨f12.sk hM.sk, z2⟩, k2, Nat.zero_le _, (f12.1 221 0 rfl).trans h0⟩
  have hR := Mo_readsParish_s p2 (D := d) (by omega)
  have e0 : Mo_parish (d + 1) 208 m = bI (Mo_readsParish d 208 m2) fun v4 m3 => if ¬ v4 = 0 then (Mo_parish_23 (d + 1) 208 (0 : Int32) m3) else (yI (gI m3 208 9) m3) := by
    rw [Mo_parish_e _ _ _ kd_208, mI_u, ← hm1, e2, bV_y]
  rw [e0]
  cases y : pR (t, tp) with
  | inl e =>
    obtain ⟨m3, f3, a3, r3⟩ := hR.2 e y
    have f123 := f12.tr f3.rN
    rw [a3, bI_y, k0a, r3]
    refine ⟨m3, v, f123.nwX, rfl, ?_, fun _ _ => rfl, fun r q => (by cases q)⟩
    exact MI.z ⟨hM, ⟨t1, t2⟩, hV⟩ f123 (fun a j q1 q2 => sNw_n (by omega)) (hM.nw f123) ((f3.1 208 1 rfl).trans c2)
  | inr r =>
    obtain ⟨m3, f3, a3, p3, u3⟩ := hR.1 r y
    have f123 := f12.tr f3.rN
    have hVu : Vu r.2 := lns_V 1000 0 u0 r Vu_0 y
    obtain ⟨v1, v2, v3, v4⟩ := hVu.1
    have M3 := hM.nw f123
    have s3 := M3.sk
    obtain ⟨m4, f4, e4, g4⟩ := Mo_cp_23_s d 3 0 m3 rfl s3 (fun i hi => by omega)
    obtain ⟨m5, f5, e5, g5⟩ := Mo_cp_50_s d 18 0 m4 rfl (f4.sk s3) (fun i hi => by omega)
    obtain ⟨m6, f6, e6, g6⟩ := Mo_cp_79_s d 6 0 m5 rfl (f5.sk (f4.sk s3)) (fun i hi => by omega)
    have s6 := f6.sk (f5.sk (f4.sk s3))
    have e7 := Mo_cp_153_s d s6 (show 0 < 2 by decide)
    have s7 : Sk (cqM 0 m6) := s6
    have e8 := Mo_cp_153_s d s7 (show 1 < 2 by decide)
    obtain ⟨m8, hm8⟩ : ∃ m8, m8 = cqM 1 (cqM 0 m6) := ⟨_, rfl⟩
    have f8 : Fr (fun a j => (a == 216 || a == 217 || a == 218) && decide (j < 2)) m6 m8 := by
      rw [hm8]
      unfold cqM
      exact (((((Fr.rfl'.i rfl).i rfl).i rfl).i rfl).i rfl).i rfl
    have s8 := f8.sk s6
    -- what the new view reads
    have k210 : ∀ i, gI m8 210 i = gI m4 210 i := fun i => by
      rw [f8.1 _ _ rfl, f6.1 _ _ (decide_eq_false (by omega)), f5.1 _ _ rfl]
    have k3 : ∀ i, i < 3 → gI m8 210 i = gI m3 210 (3 + i) := fun i hi => by
      rw [k210, g4 i hi, f4.1 210 (3 + i) (by simp)]
    have k208 : ∀ j, gI m8 208 j = gI m3 208 j := fun j => by
      rw [f8.1 _ _ rfl, f6.1 _ _ (decide_eq_false (by omega)), f5.1 _ _ rfl, f4.1 _ _ rfl]
    have k211 : ∀ i, i < 18 → gL m8 211 i = gL m3 211 (18 + i) := fun i hi => by
      rw [f8.2.1 _ _ rfl, f6.2.1 _ _ (decide_eq_false (by omega)), g5 i hi, f5.2.1 211 (18 + i) (by simp), f4.2.1 _ _ rfl]
    have k212 : ∀ i, i < 6 → ∀ a, 212 ≤ a → a ≤ 215 → gI m8 a i = gI m3 a (6 + i) := fun i hi a h1 h2 => by
      have n8 : (fun a j => (a == 216 || a == 217 || a == 218) && decide (j < 2)) a i = false := by
        have q1 : a ≠ 216 := by omega
        have q2 : a ≠ 217 := by omega
        have q3 : a ≠ 218 := by omega
        simp [q1, q2, q3]
      have n5 : (fun a j => a == 211 && decide (j < 18)) a (6 + i) = false := by
        have q1 : a ≠ 211 := by omega
        simp [q1]
      have n4 : (fun a j => a == 210 && decide (j < 3)) a (6 + i) = false := by
        have q1 : a ≠ 210 := by omega
        simp [q1]
      rw [f8.1 _ _ n8, g6 i hi a h1 h2, f6.1 _ _ (decide_eq_false (by omega)), f5.1 _ _ n5, f4.1 _ _ n4]
    have k216o : ∀ a j, 216 ≤ a → 2 ≤ j → gI m6 a j = gI m3 a j := fun a j h1 h2 => by
      have n5 : (fun a j => a == 211 && decide (j < 18)) a j = false := by
        have q1 : a ≠ 211 := by omega
        simp [q1]
      have n4 : (fun a j => a == 210 && decide (j < 3)) a j = false := by
        have q1 : a ≠ 210 := by omega
        simp [q1]
      rw [f6.1 _ _ (decide_eq_false (by omega)), f5.1 _ _ n5, f4.1 _ _ n4]
    have k216 : ∀ c, c < 2 → gI m8 216 c = gI m3 216 (2 + c) ∧ gI m8 217 c = gI m3 217 (2 + c) ∧ gI m8 218 c = (gI m3 218 (2 + c)) &&& 1 := fun c hc => by
      rw [hm8]
      rcases (by omega : c = 0 ∨ c = 1) with z | z
      · subst z
        obtain ⟨q1, q2, q3⟩ := (cqM_g 0 m6).1
        have w := fun a => (cqM_g 1 (cqM 0 m6)).2 0 a (by decide)
        rw [w, w, w, q1, q2, q3, k216o _ _ (by decide) (by decide), k216o _ _ (by decide) (by decide), k216o _ _ (by decide) (by decide)]
        exact ⟨rfl, rfl, rfl⟩
      · subst z
        obtain ⟨q1, q2, q3⟩ := (cqM_g 1 (cqM 0 m6)).1
        have w := fun a => (cqM_g 0 m6).2 (2 + 1) a (by decide)
        rw [q1, q2, q3, w, w, w, k216o _ _ (by decide) (by decide), k216o _ _ (by decide) (by decide), k216o _ _ (by decide) (by decide)]
        exact ⟨rfl, rfl, rfl⟩
    have k236 : ∀ i, gL m8 236 i = gL m3 236 i := fun i => by
      rw [f8.2.1 _ _ rfl, f6.2.1 _ _ (decide_eq_false (by omega)), f5.2.1 _ _ rfl, f4.2.1 _ _ rfl]
    -- common
    obtain ⟨m9, hm9⟩ : ∃ m9, m9 = sL (sI m8 208 37 (nI (nCm r.2))) 219 0 (mk fun w => decide (w < 2 ^ nF r.2)) := ⟨_, rfl⟩
    have f9 : Fr (fun a j => (a == 208 && j == 37) || (a == 219 && j == 0)) m8 m9 := by rw [hm9]; exact (Fr.rfl'.i rfl).l rfl
    have s9 := f9.sk s8
    have h210 : gI (sI m8 208 37 (nI (nCm r.2))) 210 0 = nI (nF r.2) := (k3 0 (by decide)).trans u3.1.1
    obtain ⟨m10, f10, e10, g10⟩ := Mo_cp_226_s d (u := r.2) (W := 2 ^ nF r.2) v4 (nCm r.2) 0 m9 (by omega) s9 (by rw [hm9, gI_sL]; exact gI_w _ _ _ _) (fun i hi => by
      rw [f9.2.1 236 i rfl, k236]; exact u3.2.2.2.2.2 i hi) (fun w hw => by
      rw [hm9, gL_w, t_mk _ hw]
      refine (Bool.and_true _).symm.trans (congrArg _ ?_)
      exact (decide_eq_true fun i hi => absurd hi (Nat.not_lt_zero i)).symm)
    obtain ⟨m', hm'⟩ : ∃ m', m' = sI (sI (sI (sI (sI m10 208 40 0) 208 41 0) 208 42 0) 208 43 0) 208 44 0 := ⟨_, rfl⟩
    have f11 : Fr (fun a j => a == 208 && decide (40 ≤ j ∧ j ≤ 44)) m10 m' := by rw [hm']; exact ((((Fr.rfl'.i rfl).i rfl).i rfl).i rfl).i rfl
    have f8' : Fr sMx m3 m8 := by
      refine (((f4.up fun a j q => ?_).tr (f5.up fun a j q => ?_)).tr (f6.up fun a j q => ?_)).tr (f8.up fun a j q => ?_)
      · have := of_decide_eq_false q; simp; omega
      · have := of_decide_eq_false q; simp; omega
      · have := of_decide_eq_false q; exact decide_eq_false (by omega)
      · have := of_decide_eq_false q; simp; omega
    have f8m : Fr sMx m8 m' := by
      refine ((f9.up fun a j q => ?_).tr (f10.up fun a j q => ?_)).tr (f11.up fun a j q => ?_)
      all_goals (have := of_decide_eq_false q; simp; omega)
    have fM : Fr sMx m m' := (f123.nwX.tr f8').tr f8m
    have s' : Sk m' := f11.sk (f10.sk s9)
    have eqn : Mo_parish_23 (d + 1) 208 (0 : Int32) m3 = yI 0 m' := by
      have e4 : Mo_parish_23 (d + 1) 208 (0 : Int32) m3 = _ := e4
      have aw := Mo_aw_s d (m := sI m8 208 37 (nI (nCm r.2))) s8 v1 h210
      have e10 : Mo_parish_226 (d + 1) 208 (0 : Int32) m9 = _ := e10
      rw [e4, e5, e6, e7, e8, ← hm8, Mo_parish_153_e _ _ _ _ kd_208, if_pos (by decide), k208, u3.1.2.2.2, mI_u]
      have s8' : Sk (sI m8 208 37 (nI (nCm r.2))) := s8
      rw [rf_208_19 s8', bR_s, aw, bL_y, show (0 : Int32) = nI 0 from rfl, gw_219 (by decide), mJ_u, n_cl (by decide), ← hm9]
      exact e10.trans (by rw [hm']; rfl)
    have M' := vOf_mp s'
    -- the numbers
    have q210 : ∀ i, gI m' 210 i = gI m8 210 i := fun i => by rw [f11.1 _ _ rfl, f10.1 _ _ rfl, f9.1 _ _ rfl]
    have q208 : ∀ j, 40 ≤ j → j ≤ 44 → gI m' 208 j = nI 0 := fun j h1 h2 => by
      rw [hm']
      rcases (by omega : j = 40 ∨ j = 41 ∨ j = 42 ∨ j = 43 ∨ j = 44) with z | z | z | z | z <;> subst z <;> rfl
    have q37 : gI m' 208 37 = nI (nCm r.2) := by
      rw [f11.1 _ _ rfl, f10.1 _ _ rfl, hm9, gI_sL]
      exact gI_w _ _ _ _
    have qI : ∀ a j, 212 ≤ a → a ≤ 218 → gI m' a j = gI m8 a j := fun a j h1 h2 => by
      have q1 : a ≠ 208 := by omega
      have q2 : a ≠ 219 := by omega
      have n11 : (fun a j => a == 208 && decide (40 ≤ j ∧ j ≤ 44)) a j = false := by simp [q1]
      have n10 : (fun a j => a == 219 && j == 0) a j = false := by simp [q2]
      have n9 : (fun a j => (a == 208 && j == 37) || (a == 219 && j == 0)) a j = false := by simp [q1, q2]
      rw [f11.1 _ _ n11, f10.1 _ _ n10, f9.1 _ _ n9]
    have qN : ∀ i, i < 18 → gL m' 211 i = gL m3 211 (18 + i) := fun i hi => by
      rw [f11.2.1 _ _ rfl, f10.2.1 _ _ rfl, f9.2.1 _ _ rfl, k211 i hi]
    have nm : ∀ {a j a' j' n}, mpI a' j' = some (a, j) → gI m' a' j' = nI n → n < 4294967296 → (vOf m').1 a j = n := fun h1 h2 h3 => vOf_i h1 h2 h3
    obtain ⟨⟨w1, w2, w3⟩, x1, x2, x3, x4⟩ := hVu.2
    obtain ⟨uu1, uu2, uu3, uu4, uu5, uu6⟩ := u3
    have hcom : gL m' 219 0 = com r.2 := by
      rw [f11.2.1 _ _ rfl]
      refine t_ext fun w hw => ?_
      rw [g10 w hw, x3 w hw]
    rw [a3, bI_y, k1a, eqn]
    refine ⟨m', vOf m', fM, rfl, ?_, fun e q => (by cases q), fun r' q => ?_⟩
    · refine MI.z ⟨hM, ⟨t1, t2⟩, hV⟩ fM (fun a j q1 q2 => sMx_n (by omega)) M' ?_
      rw [f11.1 208 1 rfl, f10.1 208 1 rfl, f9.1 208 1 rfl, k208, f3.1 208 1 rfl, c2]
    · cases q
      have p210 : ∀ i, i < 3 → mpI 210 i = some (0, i) := fun i hi => by simp [mpI, hi]
      refine ⟨⟨⟨?_, ?_, ?_, ?_⟩, ⟨?_, ?_, ?_, ?_, ?_⟩, fun j hj => ⟨?_, ?_⟩, fun j hj => ⟨?_, ?_⟩, fun j hj => ⟨?_, ?_, ?_⟩, fun c hc => ⟨?_, ?_, ?_⟩, ?_⟩, ⟨⟨v1, v2, v3, v4⟩, ⟨w1, w2, w3⟩, x1, x2, x3, x4⟩, fun j hj => ?_⟩
      · exact nm (p210 0 (by decide)) ((q210 0).trans ((k3 0 (by decide)).trans uu1.1)) (by omega)
      · exact nm (p210 1 (by decide)) ((q210 1).trans ((k3 1 (by decide)).trans uu1.2.1)) (by omega)
      · exact nm (p210 2 (by decide)) ((q210 2).trans ((k3 2 (by decide)).trans uu1.2.2.1)) (by omega)
      · exact nm (a' := 208) (j' := 37) rfl q37 (by omega)
      · exact nm (a' := 208) (j' := 40) rfl (q208 40 (by decide) (by decide)) (by omega)
      · exact nm (a' := 208) (j' := 41) rfl (q208 41 (by decide) (by decide)) (by omega)
      · exact nm (a' := 208) (j' := 42) rfl (q208 42 (by decide) (by decide)) (by omega)
      · exact nm (a' := 208) (j' := 43) rfl (q208 43 (by decide) (by decide)) (by omega)
      · exact nm (a' := 208) (j' := 44) rfl (q208 44 (by decide) (by decide)) (by omega)
      · have := (w1 j hj).1
        have hj6 : j < 6 := by omega
        exact nm (a' := 212) (j' := j) (by simp [mpI, hj6]) (((qI 212 j (by decide) (by decide)).trans (k212 j hj6 212 (by decide) (by decide))).trans (uu2 j hj).2) (by omega)
      · have := (w1 j hj).2
        exact vOf_n ((qN j (by omega)).trans (uu2 j hj).1) this
      · have := (w2 j hj).1
        have hj6 : j < 6 := by omega
        exact nm (a' := 213) (j' := j) (by simp [mpI, hj6]) (((qI 213 j (by decide) (by decide)).trans (k212 j hj6 213 (by decide) (by decide))).trans (uu3 j hj).2) (by omega)
      · have := (w2 j hj).2
        refine vOf_n ((qN (6 + j) (by omega)).trans ?_) this
        rw [show 18 + (6 + j) = 24 + j by omega]; exact (uu3 j hj).1
      · have := (w3 j hj).1
        have hj6 : j < 6 := by omega
        exact nm (a' := 214) (j' := j) (by simp [mpI, hj6]) (((qI 214 j (by decide) (by decide)).trans (k212 j hj6 214 (by decide) (by decide))).trans (uu4 j hj).2.1) (by omega)
      · have := (w3 j hj).2.1
        have h64 : (2 : Nat) ^ nF r.2 ≤ 64 := Nat.pow_le_pow_right (n := 2) (i := nF r.2) (j := 6) (by decide) v1
        have hj6 : j < 6 := by omega
        exact nm (a' := 215) (j' := j) (by simp [mpI, hj6]) (((qI 215 j (by decide) (by decide)).trans (k212 j hj6 215 (by decide) (by decide))).trans (uu4 j hj).2.2) (by omega)
      · have := (w3 j hj).2.2
        refine vOf_n ((qN (12 + j) (by omega)).trans ?_) this
        rw [show 18 + (12 + j) = 30 + j by omega]; exact (uu4 j hj).1
      · have := (x1 c hc).1
        exact nm (a' := 216) (j' := c) (by simp [mpI, hc]) (((qI 216 c (by decide) (by decide)).trans (k216 c hc).1).trans (uu5 c hc).1) (by omega)
      · have := (x1 c hc).2.1
        exact nm (a' := 217) (j' := c) (by simp [mpI, hc]) (((qI 217 c (by decide) (by decide)).trans (k216 c hc).2.1).trans (uu5 c hc).2.1) (by omega)
      · have := (x1 c hc).2.2.1
        refine nm (a' := 218) (j' := c) (by simp [mpI, hc]) (((qI 218 c (by decide) (by decide)).trans (k216 c hc).2.2).trans ?_) (by omega)
        rw [(uu5 c hc).2.2.1]
        rcases (by omega : isc r.2 c = 0 ∨ isc r.2 c = 1) with z | z <;> rw [z] <;> rfl
      · exact hcom
      · have e240 : gI m' 240 j = nI (isq v j) := by
          have a1 : gI m 240 j = nI (isq v j) := hM.2.1 240 j (11, j) (by simp [mpI, hj])
          have n3 : sNw 240 j = false := sNw_n (by omega)
          rw [f11.1 240 j rfl, f10.1 240 j rfl, f9.1 240 j rfl, f8.1 240 j rfl, f6.1 240 j (decide_eq_false (by omega)), f5.1 240 j rfl, f4.1 240 j rfl, f123.1 240 j n3, a1]
        have := hb30 j hj
        have e : isq (vOf m') j = isq v j := nm (a' := 240) (j' := j) (by simp [mpI, hj]) e240 (by omega)
        rw [e]; exact this
