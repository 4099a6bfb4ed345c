/-! ===== LEARNS: the class, whole ===== -/
theorem surN_2 (x y : Int64) : surN x y = 2 ↔ (∃ w, w < 64 ∧ tb x w = true ∧ tb y w = true) ∧ ∃ w, w < 64 ∧ tb x w = true ∧ ¬ tb y w = true := by
  have ne : ∀ z : Int64, ¬ z = 0 ↔ ∃ w, w < 64 ∧ tb z w = true := fun z => by
    constructor
    · intro h
      by_cases q : ∃ w, w < 64 ∧ tb z w = true
      · exact q
      · exfalso
        apply h
        rw [eq0_iff]
        intro i hi
        cases r : tb z i
        · rfl
        · exact absurd ⟨i, hi, r⟩ q
    · rintro ⟨w, h1, h2⟩ h
      rw [(eq0_iff z).mp h w h1] at h2
      cases h2
  have e1 : (¬ x &&& y = 0) ↔ ∃ w, w < 64 ∧ tb x w = true ∧ tb y w = true := by
    rw [ne]
    constructor
    · rintro ⟨w, h1, h2⟩
      rw [t_and, Bool.and_eq_true] at h2
      exact ⟨w, h1, h2⟩
    · rintro ⟨w, h1, h2⟩
      exact ⟨w, h1, by rw [t_and, Bool.and_eq_true]; exact h2⟩
  have e2 : (¬ x &&& (y ^^^ (-1)) = 0) ↔ ∃ w, w < 64 ∧ tb x w = true ∧ ¬ tb y w = true := by
    rw [ne]
    constructor
    · rintro ⟨w, h1, h2⟩
      rw [t_and, t_not h1, Bool.and_eq_true, Bool.not_eq_true'] at h2
      exact ⟨w, h1, h2.1, by rw [h2.2]; decide⟩
    · rintro ⟨w, h1, h2, h3⟩
      refine ⟨w, h1, ?_⟩
      rw [t_and, t_not h1, Bool.and_eq_true, Bool.not_eq_true']
      rw [Bool.not_eq_true] at h3
      exact ⟨h2, h3⟩
  rw [← e1, ← e2]
  unfold surN
  by_cases h0 : x = 0
  · rw [if_pos h0]
    constructor
    · intro h; exact absurd h (by decide)
    · rintro ⟨h, _⟩
      exfalso
      apply h
      rw [eq0_iff]
      intro i hi
      rw [t_and, (eq0_iff x).mp h0 i hi]; rfl
  · rw [if_neg h0]
    by_cases h1 : x &&& (y ^^^ (-1)) = 0
    · rw [if_pos h1]
      exact ⟨fun h => absurd h (by decide), fun h => absurd h1 h.2⟩
    · rw [if_neg h1]
      by_cases h2 : x &&& y = 0
      · rw [if_pos h2]
        exact ⟨fun h => absurd h (by decide), fun h => absurd h2 h.1⟩
      · rw [if_neg h2]
        exact ⟨fun _ => ⟨h2, h1⟩, fun _ => rfl⟩
theorem Ai_tells_12_s {m : eM} {F : Int64} {G : Nat → Int64} (hG : ∀ q, q < 7 → gL m 48 q = G q) (B : Bool) (hB : B = true ↔ ∀ q, q < 7 → ¬ surN (G q) F = 2) (d : Nat) : ∀ j q w, q + j = 7 → (∀ i, i < q → ¬ surN (G i) F = 2) → Ai_tells_12 (d + 1) 46 F 48 (nI 7) (nI q) w m = yI (bb B) m
  | 0, q, w, e, h => by
    have : B = true := hB.mpr fun i hi => h i (by omega)
    rw [Ai_tells_12_e _ _ _ _ _ _ _ _ kd_46, if_pos (by rw [n_le (by omega) (by omega)]; omega), this]
    rfl
  | j + 1, q, w, e, h => by
    rw [Ai_tells_12_e _ _ _ _ _ _ _ _ kd_46, if_neg (by rw [n_le (by omega) (by omega)]; omega), ga_48 (by omega), n_cl (by omega), hG q (by omega), LC_sureness_s, bI_y, nI_1]
    by_cases z : surN (G q) F = 2
    · rw [if_neg (fun y => y z)]
      have : B = false := by
        cases y : B
        · rfl
        · exact absurd z (hB.mp y q (by omega))
      rw [this]; rfl
    · rw [if_pos z]
      exact Ai_tells_12_s hG B hB d j (q + 1) _ (by omega) fun i hi => by
        by_cases y : i = q
        · subst y; exact z
        · exact h i (by omega)
theorem Ai_tells_s {m : eM} (hs : Sk m) {F : Int64} {G : Nat → Int64} (hG : ∀ q, q < 7 → gL m 48 q = G q) (B : Bool) (hB : B = true ↔ ∀ q, q < 7 → ¬ surN (G q) F = 2) {D : Nat} (hD : 1 ≤ D) : Ai_tells D 46 F m = yI (bb B) m := by
  obtain ⟨d, rfl⟩ : ∃ d, D = d + 1 := ⟨D - 1, by omega⟩
  rw [Ai_tells_e _ _ _ _ kd_46, rf_46_1 hs, bR_s, gl_48, al_48, toI]
  exact Ai_tells_12_s hG B hB d 7 0 eU (by omega) fun i hi => absurd hi (Nat.not_lt_zero i)
/-- the groups tell when no two of the worlds that look the same differ -/
theorem tells_ok {v : eV} (hP : nP v ≤ 6) {x : Int64} {f W : Nat} {pt : Nat → Nat} (hp : ∀ w, pt w = 6 ∨ pt w < nP v) (hW : W ≤ 64) (hx : ∀ w, tb x w = true → w < W) (be : Nat → Nat) (hbe : ∀ w, be w = peB v (pt w)) : okL x f be W = true ↔ ∀ q, q < 7 → ¬ surN (mk fun w => tb x w && decide (fir v (pt w) = q)) (mk fun w => w.testBit f) = 2 := by
  rw [okL_i]
  constructor
  · intro h q hq hs
    obtain ⟨⟨w, w1, w2, w3⟩, ⟨u, u1, u2, u3⟩⟩ := (surN_2 _ _).mp hs
    rw [t_mk _ w1, Bool.and_eq_true, decide_eq_true_iff] at w2
    rw [t_mk _ u1, Bool.and_eq_true, decide_eq_true_iff] at u2
    rw [t_mk _ w1] at w3
    rw [t_mk _ u1] at u3
    refine u3 (h w u (hx w w2.1) (hx u u2.1) w2.1 u2.1 ?_ w3)
    rw [hbe, hbe]
    exact (fir_e (hp w) (hp u) hP).mp (w2.2.trans u2.2.symm)
  · intro h w u hw hu a1 a2 a3 a4
    by_cases y : u.testBit f = true
    · exact y
    · exfalso
      rw [hbe, hbe] at a3
      have e := (fir_e (hp w) (hp u) hP).mpr a3
      have hl := fir_le v (pt w)
      have h7 : fir v (pt w) < 7 := by rcases hp w with z | z <;> omega
      refine h (fir v (pt w)) h7 ((surN_2 _ _).mpr ⟨⟨w, by omega, ?_, ?_⟩, ⟨u, by omega, ?_, ?_⟩⟩)
      · rw [t_mk _ (show w < 64 by omega), a1, decide_eq_true rfl]; decide
      · rw [t_mk _ (show w < 64 by omega)]; exact a4
      · rw [t_mk _ (show u < 64 by omega), a2, decide_eq_true e.symm]; rfl
      · rw [t_mk _ (show u < 64 by omega)]; exact y
theorem lnW_e {v : eV} (hv : Va v) (p : Nat) : (canV v &&& mk fun w => decide (w < 2 ^ nF v) && decide ((w ^^^ tru v) &&& kno v p = 0)) = lnW v p := by
  unfold lnW
  refine t_ext fun w hw => ?_
  rw [t_and, t_and, t_mk _ hw, t_mk _ hw]
  by_cases z : tb (canV v) w = true
  · rw [z]
    unfold likeV
    rw [canV_com z, Bool.true_and (decide ((w ^^^ tru v) &&& kno v p = 0))]
  · rw [Bool.not_eq_true] at z
    rw [z]; rfl
theorem LC_learns_s {v : eV} (hv : Va v) {p : Nat} {m : eM} (h : Cn v p m) {D : Nat} (hD : 7 ≤ D) (q f so mn c : Int32) : ∃ m', Fr sK m m' ∧ LC_learns D 3 q f so mn c m = yI (sp_learns v q f so mn c) m' := by
  obtain ⟨d, rfl⟩ : ∃ d, D = d + 7 := ⟨D - 7, by omega⟩
  have hs := h.sk
  have hS := hv.s
  have hP := hv.p
  have hF := hv.f
  have htr := hv.tr
  have hW := W_64 hv
  have eSp : LC_isSpeaker (d + 6) 3 q mn m = yI (bb (inN q (nP v) && inN mn 1440)) m := by
    rw [LC_isSpeaker_e _ _ _ _ _ kd_3, rf_3_2 hs, bR_s, gd9, h.r0, bR_s, h.gp, Pa_isPerson_s h.p, br0, LC_isMinute_s, br0]
    cases inN q (nP v) <;> cases inN mn 1440 <;> rfl
  have bad : LC_learns (d + 7) 3 q f so mn c m = yI (-1) m → ¬ lnOK v q f mn c = true → ∃ m', Fr sK m m' ∧ LC_learns (d + 7) 3 q f so mn c m = yI (sp_learns v q f so mn c) m' := fun e z => ⟨m, Fr.rfl', by unfold sp_learns; rw [if_neg z, e]⟩
  rw [LC_learns_e _ _ _ _ _ _ _ _ kd_3, rf_3_2 hs, bR_s, gd9, h.r0, bR_s, eSp, br0, h.gp, Pa_isFact_s h.p, br0, Pa_isThere_s hv h.p (by omega), br0, rf_3_2 hs, bR_s, gd9, rf_9_1 hs, bR_s, gd22, Tk_lastMinute_s h.t (by omega), bI_y] at bad ⊢
  by_cases z1 : (inN q (nP v) && inN mn 1440) = true
  · by_cases z2 : inN f (nF v) = true
    · by_cases z4 : thr v c = true
      · rw [if_pos z1, if_pos z2, if_pos z4] at bad ⊢
        rw [Bool.and_eq_true] at z1
        have z3 := z1.2
        have z1 := z1.1
        have hOK : lnOK v q f mn c = (decide (mn.toNatClampNeg + lat v c.toNatClampNeg < 1440) && (decide (nS v = 0) || decide (whn v (nS v - 1) ≤ mn.toNatClampNeg))) := by
          unfold lnOK
          rw [z1, z2, z3, z4]; rfl
        rw [hOK] at bad
        obtain ⟨q', hq', rfl⟩ := inN_of (by omega) z1
        obtain ⟨f', hf', rfl⟩ := inN_of (by omega) z2
        obtain ⟨mn', hm', rfl⟩ := inN_of (by omega) z3
        obtain ⟨c', hc', rfl, -⟩ := thr_of z4
        have hl := hv.lt hc'
        have hkn := hv.kn hq'
        rw [n_cl (by omega), n_cl (by omega)] at hOK bad
        have hlast : (if nS v = 0 then 0 else whn v (nS v - 1)) < 1440 := by
          by_cases y : nS v = 0
          · rw [if_pos y]; decide
          · rw [if_neg y]; exact hv.wn (Or.inl (by omega))
        by_cases z6 : (if nS v = 0 then 0 else whn v (nS v - 1)) ≤ mn'
        · have hd : (decide (nS v = 0) || decide (whn v (nS v - 1) ≤ mn')) = true := by
            by_cases y : nS v = 0
            · rw [decide_eq_true y]; rfl
            · rw [if_neg y] at z6; rw [decide_eq_true z6, Bool.or_true]
          rw [if_neg (by rw [n_lt (by omega) (by omega)]; omega), Pa_late_s h.p (by omega) hc', bI_y, nI_add, l_1439] at bad ⊢
          by_cases z5 : mn' + lat v c' < 1440
          · rw [if_pos (by rw [n_le (by omega) (by omega)]; omega)]
            have hok : lnOK v (nI q') (nI f') (nI mn') (nI c') = true := by rw [hOK, hd, decide_eq_true z5]; rfl
            unfold sp_learns
            rw [if_pos hok, n_cl (by omega), n_cl (by omega), n_cl (by omega), n_cl (by omega)]
            obtain ⟨m1, f1, e1⟩ := LC_possible_s hv h (show 4 ≤ d + 6 by omega)
            have h1 := h.q (sA_K f1)
            have hs1 := h1.sk
            rw [e1, bL_y, Pa_known_s hv h1.p (by omega) hq', bI_y, rf_3_2 hs1, bR_s, gd9, h1.tr, Pa_alike_s hv h1.p h1.ss (by omega) hkn (by omega), bL_y, lnW_e hv]
            unfold lnR
            by_cases y : lnW v q' = 0
            · rw [if_neg (fun x => x ((cmp0 _ _).mpr y)), if_pos y]
              exact ⟨m1, sA_K f1, rfl⟩
            · rw [if_pos (fun x => y ((cmp0 _ _).mp x)), if_neg y]
              obtain ⟨m2, f2, e2, hT2⟩ := Tk_copy_s (show 3 ≤ d + 6 by omega) (show 49 + 5 < 22 ∨ 22 + 5 < 49 by omega) stT_49 (TkR_49 hs1) h1.t
              have h2 := h1.q (sT49_K f2)
              have hs2 := h2.sk
              obtain ⟨m3, f3, e3, hT3⟩ := LC_tell_s hv h2 (show 3 ≤ d + 6 by omega) (f := f') so hq' hm' hT2
              have h3 := h2.q (sT49_K f3)
              have hs3 := h3.sk
              have hv' : Va (lnV v q' f' so mn') := v30_va hv q' mn' _
              obtain ⟨m4, f4, e4, -, hg⟩ := Ai_take_s hv' (show 2 ≤ d + 6 by omega) hc' (show mn' + lat v c' < 2000 by omega) (lnW v q') (of49 h3) hT3 (v30_pp h3.p q' mn' _) hs3
              have h4 := h3.q (sA_K f4)
              have hs4 := h4.sk
              have hp6 := fun w => hT3.pl c' (mn' + lat v c') w
              have hp7 : ∀ w, ptN (lnV v q' f' so mn') (r30 v) c' (mn' + lat v c') w (nS v + 1) < 7 := fun w => by
                rcases hp6 w with x | x
                · omega
                · have x : _ < nP v := x
                  omega
              have hG := gr_t hp7 hg
              have hB := tells_ok (v := lnV v q' f' so mn') hP (x := lnW v q') (f := f') (W := 2 ^ nF v) hp6 hW (fun w hw => by
                unfold lnW at hw
                rw [t_and, Bool.and_eq_true] at hw
                exact canV_lt hv hw.1) (fun w => beN (lnV v q' f' so mn') (ptN (lnV v q' f' so mn') (r30 v) c' (mn' + lat v c') w (nS v + 1))) (fun w => (peB_be hv' (hp6 w)).symm)
              refine ⟨m4, (sA_K f1).tr ((sT49_K f2).tr ((sT49_K f3).tr (sA_K f4))), ?_⟩
              rw [rf_3_6 hs1, bR_s, rf_3_2 hs1, bR_s, gd9, rf_9_1 hs1, bR_s, gd49, e2, bV_y, rf_3_6 hs2, bR_s, Pa_factIs_l hv h2.p h2.ss (by omega) (by omega), bL_y, e3, bV_y, rf_3_5 hs3, bR_s, rf_3_6 hs3, bR_s, Pa_late_s h3.p (by omega) hc', bI_y, nI_add, gd46, e4, bV_y, rf_3_5 hs4, bR_s, LC_factSo_s h4.ss _ (by omega), bL_y, gd46, Ai_tells_s hs4 hG _ hB (by omega), br0, yI_if]
          · rw [if_neg (by rw [n_le (by omega) (by omega)]; omega)] at bad ⊢
            exact bad rfl (by rw [decide_eq_false z5]; simp)
        · rw [if_pos (by rw [n_lt (by omega) (by omega)]; omega)] at bad ⊢
          refine bad rfl ?_
          by_cases y : nS v = 0
          · rw [if_pos y] at z6; omega
          · rw [if_neg y] at z6
            rw [decide_eq_false y, decide_eq_false z6]; simp
      · rw [if_pos z1, if_pos z2, if_neg z4] at bad ⊢
        refine bad rfl fun x => z4 ?_
        unfold lnOK at x
        simp only [Bool.and_eq_true] at x
        exact x.2.2.2.1
    · rw [if_pos z1, if_neg z2] at bad ⊢
      refine bad rfl fun x => z2 ?_
      unfold lnOK at x
      simp only [Bool.and_eq_true] at x
      exact x.2.1
  · rw [if_neg z1] at bad ⊢
    refine bad rfl fun x => z1 ?_
    unfold lnOK at x
    simp only [Bool.and_eq_true] at x
    rw [Bool.and_eq_true]
    exact ⟨x.1, x.2.2.1⟩
