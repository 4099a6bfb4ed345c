/-! ===== SECRET: the class ===== -/
theorem nI_div {a b : Nat} (ha : a < 2 ^ 31) (hb : b < 2 ^ 31) : nI a / nI b = nI (a / b) := (Int32.ofNat_div ha hb).symm
theorem gcd_10 {t : Nat} (h1 : 1 ≤ t) : 1 ≤ Nat.gcd 10 (10 - t) ∧ Nat.gcd 10 (10 - t) ≤ 10 := ⟨Nat.gcd_pos_of_pos_left _ (by decide), Nat.gcd_le_left _ (by decide)⟩
theorem LC_secret_s {v : eV} (hv : Va v) {p : Nat} {m : eM} (h : Cn v p m) {D : Nat} (hD : 15 ≤ D) (s l t n w : Int32) : ∃ m', Fr sK m m' ∧ LC_secret D 3 s l t n w m = if secB v s l t n w = true then yL (secV v s l t n w) m' else yT m' := by
  obtain ⟨d, rfl⟩ : ∃ d, D = d + 11 := ⟨D - 11, by omega⟩
  have hs := h.sk
  have hnS := hv.s
  have htr := hv.tr
  have hW := W_le hv
  have bad : LC_secret (d + 11) 3 s l t n w m = yT m → (¬ secB v s l t n w = true) → ∃ m', Fr sK m m' ∧ LC_secret (d + 11) 3 s l t n w m = if secB v s l t n w = true then yL (secV v s l t n w) m' else yT m' := fun q y => ⟨m, Fr.rfl', by rw [if_neg y, q]⟩
  have e0 : LC_secret (d + 11) 3 s l t n w m = if inN s (nS v) = true then (if thr v l = true then (if t < (1 : Int32) then (yT m) else (if (9 : Int32) < t then (yT m) else (if n < (1 : Int32) then (yT m) else (if (15 : Int32) < n then (yT m) else (if inN w 2 = true then (bI (Tk_minute (d + 10) 22 s m) fun v20 m19 => bI (Pa_late (d + 10) p l m19) fun v22 m21 => bR (gR m21 3 2) fun r23 => gd r23 6 (bR (gR m21 r23 1) fun r25 => bI (Pa_law (d + 10) p l m21) fun v27 m26 => gd r25 7 (bL (Tk_lies (d + 10) r25 s v27 m26) fun v30 m29 => bR (gR m29 3 2) fun r31 => gd r31 6 (bI (LC_holds (d + 10) v30 (gI m29 r31 5) m29) fun v34 m33 => if v34 = 0 then (yT m33) else (if (((v20 + v22) + n) - (1 : Int32)) ≤ (1439 : Int32) then (bR (gR m33 3 7) fun r35 => bR (gR m33 3 2) fun r36 => gd r35 1 (bV (Co_follow (d + 10) r35 r36 l m33) fun m38 => bR (gR m38 3 7) fun r39 => bR (gR m38 3 2) fun r40 => gd r40 6 (bR (gR m38 r40 1) fun r42 => gd r42 7 (bI (Tk_speaker (d + 10) r42 s m38) fun v45 m44 => gd r39 1 (bI (Co_minutesAt (d + 10) r39 v45 (v20 + v22) (((v20 + v22) + n) - (1 : Int32)) m44) fun v48 m47 => bL (LC_greatestDivisor (d + 10) (10 : Int64) (((10 : Int32) - t).toInt64) m47) fun v50 m49 => if ¬ w = 0 then (if (iMax (1 : Int32) v50.toInt32) = 0 then none else bL (LC_power (d + 10) (((10 : Int32) / (iMax (1 : Int32) v50.toInt32)).toInt64) v48 m49) fun v52 m51 => yL v52 m51) else (if (iMax (1 : Int32) v50.toInt32) = 0 then none else bL (LC_power (d + 10) ((((10 : Int32) - t) / (iMax (1 : Int32) v50.toInt32)).toInt64) v48 m49) fun v54 m53 => yL v54 m53)))))) else (yT m33)))))) else yT m))))) else yT m) else yT m := by
    rw [LC_secret_e _ _ _ _ _ _ _ _ kd_3, rf_3_2 hs, bR_s, gd9, h.r0, bR_s, bR_s, gd9, rf_9_1 hs, bR_s, gd22, Tk_isIn_s h.t, br0, h.gp, Pa_isThere_s hv h.p (by omega), br0, LC_isWhat_s, br1, rf_3_2 hs, bR_s, gd9, rf_9_1 hs, bR_s, gd22]
  have oB : ∀ {x : Int32} {k : Nat}, ¬ x < 1 → ¬ nI k < x → oneB x k = true := fun h1 h2 => by
    unfold oneB
    rw [decide_eq_false h1, decide_eq_false h2]; rfl
  by_cases z2 : inN s (nS v) = true
  · obtain ⟨s', hs', rfl⟩ := inN_of (by omega) z2
    by_cases z1 : thr v l = true
    · obtain ⟨k1, hk1, rfl, -⟩ := thr_of z1
      have hla : lawV v k1 < 2 := Nat.lt_succ_of_le (hv.la hk1)
      have hlt := hv.lt hk1
      have hsx : sIx v s' := Or.inl hs'
      have hwn := hv.wn hsx
      have hwh := hv.wh hsx
      have hp := hv.p
      rw [if_pos z2, if_pos z1] at e0
      by_cases z3 : t < 1
      · rw [if_pos z3] at e0
        refine bad e0 fun q => ?_
        unfold secB oneB at q
        rw [decide_eq_true z3] at q
        simp at q
      · rw [if_neg z3] at e0
        by_cases z4 : (9 : Int32) < t
        · rw [if_pos z4] at e0
          refine bad e0 fun q => ?_
          have : oneB t 9 = true := by
            unfold secB at q
            simp only [Bool.and_eq_true] at q
            exact q.2.2.1
          unfold oneB at this
          rw [← l_9, decide_eq_true z4] at this
          simp at this
        · rw [if_neg z4] at e0
          by_cases z5 : n < 1
          · rw [if_pos z5] at e0
            refine bad e0 fun q => ?_
            have : oneB n 15 = true := by
              unfold secB at q
              simp only [Bool.and_eq_true] at q
              exact q.2.2.2.1
            unfold oneB at this
            rw [decide_eq_true z5] at this
            simp at this
          · rw [if_neg z5] at e0
            by_cases z6 : (15 : Int32) < n
            · rw [if_pos z6] at e0
              refine bad e0 fun q => ?_
              have : oneB n 15 = true := by
                unfold secB at q
                simp only [Bool.and_eq_true] at q
                exact q.2.2.2.1
              unfold oneB at this
              rw [← l_15, decide_eq_true z6] at this
              simp at this
            · rw [if_neg z6] at e0
              by_cases z7 : inN w 2 = true
              · rw [if_pos z7] at e0
                have o1 := oB (k := 9) z3 z4
                have o2 := oB (k := 15) z5 z6
                obtain ⟨t', t1, t2, rfl⟩ := oneB_of (by decide) o1
                obtain ⟨n', n1, n2, rfl⟩ := oneB_of (by decide) o2
                rw [Tk_minute_s h.t (by omega) hs', bI_y, Pa_late_s h.p (by omega) hk1, bI_y, rf_3_2 hs, bR_s, gd9, rf_9_1 hs, bR_s, Pa_law_s h.p (by omega) hk1, bI_y, gd22, Tk_lies_s h.t (by omega) hs' hla, bL_y, rf_3_2 hs, bR_s, gd9, h.tr, LC_holds_s _ _ (by omega), br0, lieM_t htr (by omega)] at e0
                by_cases z8 : lieV v s' (lawV v k1) (tru v) = true
                · rw [if_pos z8] at e0
                  have ep : nI (whn v s') + nI (lat v k1) + nI n' - 1 = nI (whn v s' + lat v k1 + n') - 1 := by rw [nI_add, nI_add]
                  have ec : (nI (whn v s' + lat v k1 + n') - 1 ≤ (1439 : Int32)) ↔ whn v s' + lat v k1 + n' ≤ 1440 := by
                    obtain ⟨n'', rfl⟩ : ∃ q, n' = q + 1 := ⟨n' - 1, by omega⟩
                    rw [show whn v s' + lat v k1 + (n'' + 1) = (whn v s' + lat v k1 + n'') + 1 by omega, nI_pred, l_1439, n_le (by omega) (by omega)]
                    omega
                  rw [ep] at e0
                  have hb1 : secB v (nI s') (nI k1) (nI t') (nI n') w = decide (whn v s' + lat v k1 + n' ≤ 1440) := by
                    unfold secB plV
                    rw [z1, z2, o1, o2, z7, n_cl (by omega), n_cl (by omega), n_cl (by omega), z8]
                    rfl
                  by_cases z9 : whn v s' + lat v k1 + n' ≤ 1440
                  · rw [if_pos (ec.mpr z9)] at e0
                    obtain ⟨m1, S, Q, N, f1, e1, h1, h2⟩ := Co_follow_s hv (t := 55) (Or.inl rfl) (show 3 ≤ d + 10 by omega) hk1 h
                    have hc1 := h.q (sc_K (Or.inl rfl) f1)
                    have hs1 := hc1.sk
                    refine ⟨m1, sc_K (Or.inl rfl) f1, ?_⟩
                    have em := Co_minutesAt_s h1 (show 2 ≤ d + 10 by omega) (show who v s' < 7 by omega) (a := whn v s' + lat v k1) (T := whn v s' + lat v k1 + n') (by omega) (by omega)
                    rw [sum_parts_all h2 (who v s') z9 (by omega)] at em
                    have epI : pI (who v s') = nI (who v s') := by unfold pI; rw [if_neg (by omega)]
                    rw [epI] at em
                    obtain ⟨g1, g2⟩ := gcd_10 t1
                    have eg : LC_greatestDivisor (d + 10) (10 : Int64) ((10 : Int32) - nI t').toInt64 m1 = yL (nJ (Nat.gcd 10 (10 - t'))) m1 := by
                      rw [l_10, pk_sub (by omega), nI_J (by omega)]
                      exact LC_greatestDivisor_s (a := 10) (d + 10) m1 (by decide) (by omega)
                    have eM : iMax (1 : Int32) (nJ (Nat.gcd 10 (10 - t'))).toInt32 = nI (Nat.gcd 10 (10 - t')) := by
                      rw [nJ_I]
                      refine (iMax_n (a := 1) (by decide) (by omega)).trans ?_
                      rw [show max 1 (Nat.gcd 10 (10 - t')) = Nat.gcd 10 (10 - t') by omega]
                    have hc : poiV v k1 (who v s') (whn v s' + lat v k1) (whn v s' + lat v k1 + n') ≤ 15 := by
                      have := cnt_le (fun i => decide (pP v k1 (whn v s' + lat v k1 + i) = who v s')) (whn v s' + lat v k1 + n' - (whn v s' + lat v k1))
                      unfold poiV
                      omega
                    rw [rf_3_7 hs, bR_s, rf_3_2 hs, bR_s, gd55, e1, bV_y, rf_3_7 hs1, bR_s, rf_3_2 hs1, bR_s, gd9, rf_9_1 hs1, bR_s, gd22, Tk_speaker_s hc1.t (by omega) hs', bI_y, gd55, nI_add, em, bI_y, eg, bL_y, eM, if_neg (show ¬ nI (Nat.gcd 10 (10 - t')) = 0 by rw [n_eq0 (by omega)]; omega), if_neg (show ¬ nI (Nat.gcd 10 (10 - t')) = 0 by rw [n_eq0 (by omega)]; omega), l_10, nI_div (by decide) (by omega), pk_sub (by omega), nI_div (by omega) (by omega)] at e0
                    rw [e0, hb1, if_pos (decide_eq_true z9)]
                    unfold secV secN secC
                    rw [n_cl (by omega), n_cl (by omega), n_cl (by omega), n_cl (by omega)]
                    have d1 : 10 / Nat.gcd 10 (10 - t') ≤ 10 := Nat.div_le_self _ _
                    have d2 : (10 - t') / Nat.gcd 10 (10 - t') ≤ 10 - t' := Nat.div_le_self _ _
                    by_cases y : w = 0
                    · rw [if_neg (fun q => q y), if_pos y, nI_J (by omega), LC_power_s _ _ (by omega)]; rfl
                    · rw [if_pos y, if_neg y, nI_J (by omega), LC_power_s _ _ (by omega)]; rfl
                  · rw [if_neg (fun q => z9 (ec.mp q))] at e0
                    refine bad e0 ?_
                    rw [hb1, decide_eq_false z9]
                    decide
                · rw [if_neg z8] at e0
                  refine bad e0 fun q => z8 ?_
                  unfold secB plV at q
                  rw [n_cl (by omega), n_cl (by omega)] at q
                  simp only [Bool.and_eq_true] at q
                  exact q.2.1.2
              · rw [if_neg z7] at e0
                refine bad e0 fun q => z7 ?_
                unfold secB at q
                simp only [Bool.and_eq_true] at q
                exact q.2.2.2.2.1
    · rw [if_pos z2, if_neg z1] at e0
      refine bad e0 fun q => z1 ?_
      unfold secB at q
      simp only [Bool.and_eq_true] at q
      exact q.1
  · rw [if_neg z2] at e0
    refine bad e0 fun q => z2 ?_
    unfold secB plV at q
    simp only [Bool.and_eq_true] at q
    exact q.2.1.1
