/-! ===== NEXT, FOG: the class ===== -/
theorem Ai_largest_13_s {m : eM} (G : Nat → Int64) (hG : ∀ q, q < 7 → gL m 48 q = G q) (d : Nat) : ∀ j q w5, q + j = 7 → Ai_largest_13 (d + 1) 46 (nI (mxN (fun q => pcL (G q)) q)) 48 (nI 7) (nI q) w5 m = yI (nI (mxN (fun q => pcL (G q)) 7)) m
  | 0, q, w5, e => by
    rw [Ai_largest_13_e _ _ _ _ _ _ _ _ kd_46, if_pos (by rw [n_le (by omega) (by omega)]; omega), show q = 7 by omega]
  | j + 1, q, w5, e => by
    have h1 := pcL_le (G q)
    have h2 : mxN (fun q => pcL (G q)) q ≤ 64 := by
      rcases mxN_in (f := fun q => pcL (G q)) (n := q) with z | ⟨k, -, z⟩
      · omega
      · rw [← z]; exact pcL_le _
    rw [Ai_largest_13_e _ _ _ _ _ _ _ _ kd_46, if_neg (by rw [n_le (by omega) (by omega)]; omega), ga_48 (by omega), n_cl (by omega), hG q (by omega), Lg_bitCount_s, bI_y, nI_1]
    have em : iMax (nI (mxN (fun q => pcL (G q)) q)) (nI (pcL (G q))) = nI (mxN (fun q => pcL (G q)) (q + 1)) := by
      unfold iMax
      show _ = nI (if mxN (fun q => pcL (G q)) q < pcL (G q) then pcL (G q) else mxN (fun q => pcL (G q)) q)
      by_cases y : mxN (fun q => pcL (G q)) q < pcL (G q)
      · rw [if_pos y, if_pos (by rw [n_lt (by omega) (by omega)]; exact y)]
      · rw [if_neg y, if_neg (by rw [n_lt (by omega) (by omega)]; exact y)]
    rw [em]
    exact Ai_largest_13_s G hG d j (q + 1) _ (by omega)
theorem Ai_bearings_13_s {m : eM} (G : Nat → Int64) (hG : ∀ q, q < 7 → gL m 48 q = G q) (d : Nat) : ∀ j q w5, q + j = 7 → Ai_bearings_13 d 46 (nI (cnt (fun q => !decide (G q = 0)) q)) 48 (nI 7) (nI q) w5 m = yI (nI (cnt (fun q => !decide (G q = 0)) 7)) m
  | 0, q, w5, e => by
    rw [Ai_bearings_13_e _ _ _ _ _ _ _ _ kd_46, if_pos (by rw [n_le (by omega) (by omega)]; omega), show q = 7 by omega]
  | j + 1, q, w5, e => by
    have ih := Ai_bearings_13_s G hG d j (q + 1) (.long (G q)) (by omega)
    have ec : cnt (fun q => !decide (G q = 0)) (q + 1) = cnt (fun q => !decide (G q = 0)) q + (if (!decide (G q = 0)) = true then 1 else 0) := rfl
    rw [Ai_bearings_13_e _ _ _ _ _ _ _ _ kd_46, if_neg (by rw [n_le (by omega) (by omega)]; omega), ga_48 (by omega), n_cl (by omega), hG q (by omega), nI_1, ← ih, ec]
    by_cases z : G q = 0
    · rw [if_pos ((cmp0 _ _).mpr z), decide_eq_true z, show (0 : Int32) = nI 0 from rfl, nI_add]; rfl
    · rw [if_neg (fun y => z ((cmp0 _ _).mp y)), decide_eq_false z, nI_1]; rfl
/-- what a look is worth: bearings, or below 0 the worlds left -/
def vI (ap : Bool) (g : Nat) : Int32 := if ap = true then nI (99 - g) else -nI g
theorem vI_le {ap : Bool} {g g' : Nat} (h : g ≤ 99) (h' : g' ≤ 99) : (vI ap g' ≤ vI ap g) = (g ≤ g') := by
  unfold vI
  cases ap
  · exact propext (sb_nle (by omega) (by omega))
  · show (nI (99 - g') ≤ nI (99 - g)) = _
    rw [n_le (by omega) (by omega)]
    exact propext ⟨fun z => by omega, fun z => by omega⟩
theorem iAbs_v {ap : Bool} {g : Nat} (h : g ≤ 99) : iAbs (vI ap g) = if ap = true then nI (99 - g) else nI g := by
  unfold vI iAbs
  cases ap
  · show (if 0 ≤ -nI g then -nI g else 0 - -nI g) = nI g
    by_cases z : g = 0
    · subst z; rfl
    · rw [if_neg]
      · rw [Int32.sub_eq_add_neg, Int32.neg_neg, Int32.zero_add]
      · intro q
        have := (sb_nle (a := g) (b := 0) (by omega) (by omega)).mp
        rw [Int32.le_iff_toInt_le, sb_negT (by omega)] at q
        have e0 : (0 : Int32).toInt = 0 := by decide
        omega
  · show (if 0 ≤ nI (99 - g) then nI (99 - g) else _) = nI (99 - g)
    rw [if_pos (nI_pos' (by omega))]
def gV (v : eV) (ap : Bool) (c : Nat) (x : Int64) (mn : Nat) : Nat := if ap = true then gFg v c x mn else gNx v c x mn
theorem gV_le (v : eV) (ap : Bool) (c : Nat) (x : Int64) (mn : Nat) : gV v ap c x mn ≤ 99 := by
  unfold gV
  split
  · exact Nat.sub_le _ _
  · exact Nat.le_trans (mx_le _ _ _) (by decide)
theorem LC_worth_s {v : eV} (hv : Va v) {p : Nat} {m : eM} (h : Cn v p m) {D : Nat} (hD : 3 ≤ D) {c mn : Nat} (hc : c < 2) (hm : mn < 2000) (x : Int64) (ap : Bool) : ∃ m', Fr sA m m' ∧ LC_worth D 3 (nI c) (nI mn) x (bb ap) m = yI (vI ap (gV v ap c x mn)) m' := by
  obtain ⟨d, rfl⟩ : ∃ d, D = d + 3 := ⟨D - 3, by omega⟩
  obtain ⟨m1, f1, e1, -, h2⟩ := Ai_take_s hv (show 2 ≤ d + 2 by omega) hc hm x h.of h.t h.p h.sk
  have hc1 := h.q (sA_K f1)
  have hs := h.sk
  have hs1 := hc1.sk
  have hnP := hv.p
  have p7 : ∀ w, pt0 v c mn w < 7 := fun w => by rcases pt0_le hv (c := c) (mn := mn) (w := w) with z | z <;> omega
  have hG := gr_t p7 h2
  have hF7 : ∀ w, w < 64 → fir v (pt0 v c mn w) < 7 := fun w _ => Nat.lt_of_le_of_lt (fir_le _ _) (p7 w)
  have hFB : ∀ u w, u < 64 → w < 64 → (fir v (pt0 v c mn u) = fir v (pt0 v c mn w) ↔ bW v c mn u = bW v c mn w) := fun u w _ _ => by
    rw [fir_e (pt0_le hv) (pt0_le hv) hnP, peB_be hv (pt0_le hv), peB_be hv (pt0_le hv)]
    exact Iff.rfl
  refine ⟨m1, f1, ?_⟩
  rw [LC_worth_e _ _ _ _ _ _ _ kd_3, rf_3_5 hs, bR_s, rf_3_2 hs, bR_s, gd9, rf_9_1 hs, bR_s, bR_s, gd9, h.r0, bR_s, gd46, e1, bV_y, rf_3_5 hs1]
  cases ap
  · rw [bb_f, if_pos rfl, bR_s, gd46, Ai_largest_e _ _ _ kd_46, rf_46_1 hs1, bR_s, gl_48, al_48, toI]
    have e2 := Ai_largest_13_s (fun q => mk fun w => tb x w && decide (fir v (pt0 v c mn w) = q)) hG (d + 1) 7 0 eU (by omega)
    have e3 : mxN (fun q => pcL (mk fun w => tb x w && decide (fir v (pt0 v c mn w) = q))) 7 = larV v c mn x := by
      unfold larV
      rw [← grp_mx (B := bW v c mn) hF7 (fun w _ => be_lt hv (pt0_le hv)) hFB]
      refine congrArg (fun f => mxN f 7) (funext fun q => ?_)
      exact cnt_c fun w hw => t_mk _ hw
    rw [e3] at e2
    show (bI (Ai_largest_13 (d + 2) 46 (nI 0) 48 (nI 7) (nI 0) eU m1) _) = _
    have e2 : Ai_largest_13 (d + 2) 46 (nI 0) 48 (nI 7) (nI 0) eU m1 = yI (nI (larV v c mn x)) m1 := e2
    rw [e2, bI_y]
    rfl
  · rw [bb_t, if_neg (by decide), bR_s, gd46, Ai_bearings_e _ _ _ kd_46, rf_46_1 hs1, bR_s, gl_48, al_48, toI]
    have e2 := Ai_bearings_13_s (fun q => mk fun w => tb x w && decide (fir v (pt0 v c mn w) = q)) hG (d + 2) 7 0 eU (by omega)
    rw [grp_ki hF7 hFB] at e2
    show (bI (Ai_bearings_13 (d + 2) 46 (nI 0) 48 (nI 7) (nI 0) eU m1) _) = _
    have e2 : Ai_bearings_13 (d + 2) 46 (nI 0) 48 (nI 7) (nI 0) eU m1 = yI (nI (kinV v c mn x)) m1 := e2
    have hk : kinV v c mn x ≤ 64 := cnt_le _ _
    rw [e2, bI_y]
    show yI (nI (kinV v c mn x)) m1 = yI (nI (99 - (99 - kinV v c mn x))) m1
    rw [show 99 - (99 - kinV v c mn x) = kinV v c mn x by omega]
theorem LC_isSpan_s {D : Nat} (hD : 1 ≤ D) (a b : Int32) (m : eM) : LC_isSpan D a b m = yI (bb (inN a 1440 && (inN b 1440 && !decide (b < a)))) m := by
  obtain ⟨d, rfl⟩ : ∃ d, D = d + 1 := ⟨D - 1, by omega⟩
  rw [LC_isSpan_e, LC_isMinute_s, br0, LC_isMinute_s, br0]
  cases inN a 1440
  · rfl
  · cases inN b 1440
    · rfl
    · by_cases z : b < a
      · rw [if_pos rfl, if_pos rfl, if_pos z, decide_eq_true z]; rfl
      · rw [if_pos rfl, if_pos rfl, if_neg z, decide_eq_false z]; rfl
/-- the minutes ahead of saying n -/
def cdN (v : eV) (c a b n : Nat) (mn : Nat) : Prop := mn = a ∨ (a < mn ∧ mn ≤ b ∧ ∃ s, s < n ∧ whn v s + lat v c = mn)
theorem LC_bestMinute_65_s {v : eV} (hv : Va v) {p : Nat} (d : Nat) {c a b : Nat} (hc : c < 2) (ha : a ≤ b) (hb : b < 1440) (w : Int32) (ap : Bool) (x : Int64) : ∀ j n q w11 w12 m, Cn v p m → isB (gV v ap c x) (cdN v c a b n) q → n + j = nS v → ∃ m', Fr sA m m' ∧ LC_bestMinute_65 (d + 4) 3 (nI c) (nI a) (nI b) w (bb ap) x (nI q.1) (vI ap q.2) (nI n) w11 w12 m = yI (if w = 0 then nI (bestV v (fun c => gV v ap c x) c a b).1 else if ap = true then nI (99 - (bestV v (fun c => gV v ap c x) c a b).2) else nI (bestV v (fun c => gV v ap c x) c a b).2) m'
  | 0, n, q, w11, w12, m, h, hq, e => by
    have hs := h.sk
    have hnS := hv.s
    have heq : q = bestV v (fun c => gV v ap c x) c a b := by
      refine isB_u hq ?_
      have hB := bmn_B (gV v ap c x) (cnd v c) a (b - a)
      show isB _ _ (bmn (gV v ap c x) (cnd v c) a (b - a))
      refine ⟨?_, hB.2.1, fun cc hcc => hB.2.2 cc ?_⟩
      · rcases hB.1 with z | ⟨z1, z2, z3⟩
        · exact Or.inl z
        · obtain ⟨s, h1, h2⟩ := of_decide_eq_true z3
          exact Or.inr ⟨z1, by omega, s, by omega, h2⟩
      · rcases hcc with z | ⟨z1, z2, s, h1, h2⟩
        · exact Or.inl z
        · exact Or.inr ⟨z1, by omega, decide_eq_true ⟨s, by omega, h2⟩⟩
    have hle : q.2 ≤ 99 := by rw [hq.2.1]; exact gV_le _ _ _ _ _
    refine ⟨m, Fr.rfl', ?_⟩
    rw [LC_bestMinute_65_e _ _ _ _ _ _ _ _ _ _ _ _ _ _ kd_3, rf_3_2 hs, bR_s, gd9, rf_9_1 hs, bR_s, gd22, Tk_size_e _ _ _ kd_22, h.t.2.2.1, bI_y, if_pos (by rw [n_le (by omega) (by omega)]; omega), iAbs_v hle, ← heq]
    by_cases z : w = 0
    · rw [if_neg (fun y => y z), if_pos z]
    · rw [if_pos z, if_neg z]
  | j + 1, n, q, w11, w12, m, h, hq, e => by
    have hs := h.sk
    have hnS := hv.s
    have hl := hv.lt hc
    have hwn := hv.wn (Or.inl (by omega) : sIx v n)
    have hle : q.2 ≤ 99 := by rw [hq.2.1]; exact gV_le _ _ _ _ _
    have e0 := LC_bestMinute_65_e (d + 3) 3 (nI c) (nI a) (nI b) w (bb ap) x (nI q.1) (vI ap q.2) (nI n) w11 w12 m kd_3
    rw [rf_3_2 hs, bR_s, gd9, rf_9_1 hs, bR_s, gd22, Tk_size_e _ _ _ kd_22, h.t.2.2.1, bI_y, if_neg (by rw [n_le (by omega) (by omega)]; omega), rf_3_2 hs, bR_s, gd9, rf_9_1 hs, bR_s, gd22, Tk_minute_s h.t (by omega) (by omega), bI_y, rf_3_2 hs, bR_s, gd9, h.r0, bR_s, h.gp, Pa_late_s h.p (by omega) hc, bI_y, nI_add, nI_1] at e0
    simp only [Int32.le_refl, if_true] at e0
    -- not in the span: nothing changes
    have same : ¬ (a < whn v n + lat v c ∧ whn v n + lat v c ≤ b) → isB (gV v ap c x) (cdN v c a b (n + 1)) q := by
      intro no
      refine ⟨?_, hq.2.1, fun cc hcc => hq.2.2 cc ?_⟩
      · rcases hq.1 with z | ⟨z1, z2, s, h1, h2⟩
        · exact Or.inl z
        · exact Or.inr ⟨z1, z2, s, by omega, h2⟩
      · rcases hcc with z | ⟨z1, z2, s, h1, h2⟩
        · exact Or.inl z
        · by_cases y : s = n
          · subst y; exact absurd ⟨by omega, by omega⟩ no
          · exact Or.inr ⟨z1, z2, s, by omega, h2⟩
    by_cases y1 : whn v n + lat v c ≤ a
    · obtain ⟨m2, f2, e2⟩ := LC_bestMinute_65_s hv d hc ha hb w ap x j (n + 1) q _ _ m h (same (by omega)) (by omega)
      refine ⟨m2, f2, ?_⟩
      rw [e0, if_pos (by rw [n_le (by omega) (by omega)]; exact y1)]
      exact e2
    · by_cases y2 : b < whn v n + lat v c
      · obtain ⟨m2, f2, e2⟩ := LC_bestMinute_65_s hv d hc ha hb w ap x j (n + 1) q _ _ m h (same (by omega)) (by omega)
        refine ⟨m2, f2, ?_⟩
        rw [e0, if_neg (by rw [n_le (by omega) (by omega)]; exact y1), if_pos (by rw [n_lt (by omega) (by omega)]; exact y2)]
        exact e2
      · obtain ⟨m1, f1, e1⟩ := LC_worth_s hv h (show 3 ≤ d + 3 by omega) hc (show whn v n + lat v c < 2000 by omega) x ap
        have h1 := h.q (sA_K f1)
        -- all candidates so far are not behind this one
        have hle2 : ∀ cc, cdN v c a b n cc → cc ≤ whn v n + lat v c := by
          intro cc hcc
          rcases hcc with z | ⟨z1, z2, s, h1, h2⟩
          · omega
          · have := hv.so (i := s) (j := n) (by omega) (by omega)
            omega
        by_cases y3 : gV v ap c x (whn v n + lat v c) < q.2
        · obtain ⟨m2, f2, e2⟩ := LC_bestMinute_65_s hv d hc ha hb w ap x j (n + 1) (whn v n + lat v c, gV v ap c x (whn v n + lat v c)) (.int (nI (whn v n + lat v c))) (.int (vI ap (gV v ap c x (whn v n + lat v c)))) m1 h1 (by
            refine ⟨Or.inr ⟨by omega, by omega, n, by omega, rfl⟩, rfl, fun cc hcc => ?_⟩
            show gV v ap c x (whn v n + lat v c) ≤ _ ∧ (cc < whn v n + lat v c → gV v ap c x (whn v n + lat v c) < _)
            by_cases z : cc = whn v n + lat v c
            · subst z; exact ⟨Nat.le_refl _, fun y => absurd y (Nat.lt_irrefl _)⟩
            · have := (hq.2.2 cc (by
                rcases hcc with z | ⟨z1, z2, s, h1, h2⟩
                · exact Or.inl z
                · by_cases y : s = n
                  · subst y; exact absurd h2.symm z
                  · exact Or.inr ⟨z1, z2, s, by omega, h2⟩)).1
              exact ⟨by omega, fun _ => by omega⟩) (by omega)
          refine ⟨m2, f1.tr f2, ?_⟩
          rw [e0, if_neg (by rw [n_le (by omega) (by omega)]; exact y1), if_neg (by rw [n_lt (by omega) (by omega)]; exact y2), e1, bI_y, if_neg (by rw [vI_le hle (gV_le _ _ _ _ _)]; omega)]
          exact e2
        · obtain ⟨m2, f2, e2⟩ := LC_bestMinute_65_s hv d hc ha hb w ap x j (n + 1) q (.int (nI (whn v n + lat v c))) (.int (vI ap (gV v ap c x (whn v n + lat v c)))) m1 h1 (by
            refine ⟨?_, hq.2.1, fun cc hcc => ?_⟩
            · rcases hq.1 with z | ⟨z1, z2, s, h1, h2⟩
              · exact Or.inl z
              · exact Or.inr ⟨z1, z2, s, by omega, h2⟩
            · by_cases z : cdN v c a b n cc
              · exact hq.2.2 cc z
              · have ec : cc = whn v n + lat v c := by
                  rcases hcc with z2 | ⟨z1, z2, s, h1, h2⟩
                  · exact absurd (Or.inl z2) z
                  · by_cases y : s = n
                    · subst y; exact h2.symm
                    · exact absurd (Or.inr ⟨z1, z2, s, by omega, h2⟩) z
                have hb2 := hle2 _ hq.1
                subst ec
                exact ⟨by omega, fun y => by omega⟩) (by omega)
          refine ⟨m2, f1.tr f2, ?_⟩
          rw [e0, if_neg (by rw [n_le (by omega) (by omega)]; exact y1), if_neg (by rw [n_lt (by omega) (by omega)]; exact y2), e1, bI_y, if_pos (by rw [vI_le hle (gV_le _ _ _ _ _)]; omega)]
          exact e2
theorem LC_bestMinute_s {v : eV} (hv : Va v) {p : Nat} {m : eM} (h : Cn v p m) {D : Nat} (hD : 5 ≤ D) (c a b w : Int32) (ap : Bool) : ∃ m', Fr sK m m' ∧ LC_bestMinute D 3 c a b w (bb ap) m = yI (if ap = true then sp_fog v c a b w else sp_next v c a b w) m' := by
  obtain ⟨d, rfl⟩ : ∃ d, D = d + 5 := ⟨D - 5, by omega⟩
  have hs := h.sk
  have e0 : LC_bestMinute (d + 5) 3 c a b w (bb ap) m = if spS v c a b = true then (if inN w 2 = true then (bL (LC_possible (d + 4) 3 m) fun v12 m11 => if ¬ (lg_cmp v12 (0 : Int64)) = 0 then (bI (LC_worth (d + 4) 3 c a v12 (bb ap) m11) fun v14 m13 => LC_bestMinute_65 (d + 5) 3 c a b w (bb ap) v12 a v14 (0 : Int32) eU eU m13) else (yI (-1 : Int32) m11)) else yI (-1) m) else yI (-1) m := by
    rw [LC_bestMinute_e _ _ _ _ _ _ _ _ kd_3, rf_3_2 hs, bR_s, gd9, h.r0, bR_s, h.gp, Pa_isThere_s hv h.p (by omega), br0, LC_isSpan_s (by omega), br0, LC_isWhat_s, br1]
    unfold spS
    cases thr v c
    · rfl
    · rfl
  rw [e0]
  unfold sp_fog sp_next
  by_cases z1 : spS v c a b = true
  · by_cases z2 : inN w 2 = true
    · simp only [if_pos z1, if_pos z2]
      obtain ⟨m1, f1, e1⟩ := LC_possible_s hv h (show 4 ≤ d + 4 by omega)
      have h1 := h.q (sA_K f1)
      rw [e1, bL_y]
      by_cases z3 : canV v = 0
      · refine ⟨m1, sA_K f1, ?_⟩
        simp only [if_pos z3, ite_self]
        rw [if_neg (fun q => q ((cmp0 _ _).mpr z3))]
      · simp only [if_neg z3]
        rw [if_pos (fun q => z3 ((cmp0 _ _).mp q))]
        obtain ⟨k, i, j, hk, hi, hj, hij, rfl, rfl, rfl⟩ := spS_of z1
        obtain ⟨m2, f2, e2⟩ := LC_worth_s hv h1 (show 3 ≤ d + 4 by omega) hk (show i < 2000 by omega) (canV v) ap
        obtain ⟨m3, f3, e3⟩ := LC_bestMinute_65_s hv (d + 1) hk hij hj w ap (canV v) (nS v) 0 (i, gV v ap k (canV v) i) eU eU m2 (h1.q (sA_K f2)) ⟨Or.inl rfl, rfl, fun cc hcc => by
          rcases hcc with z | ⟨_, _, s, hh, _⟩
          · subst z; exact ⟨Nat.le_refl _, fun y => absurd y (Nat.lt_irrefl _)⟩
          · exact absurd hh (Nat.not_lt_zero s)⟩ (by omega)
        refine ⟨m3, ((sA_K f1).tr (sA_K f2)).tr (sA_K f3), ?_⟩
        rw [e2, bI_y, n_cl (by omega), n_cl (by omega), n_cl (by omega)]
        refine e3.trans ?_
        cases ap <;> rfl
    · simp only [if_pos z1, if_neg z2, ite_self]
      exact ⟨_, Fr.rfl', rfl⟩
  · simp only [if_neg z1, ite_self]
    exact ⟨_, Fr.rfl', rfl⟩
theorem LC_next_s {v : eV} (hv : Va v) {p : Nat} {m : eM} (h : Cn v p m) {D : Nat} (hD : 6 ≤ D) (c a b w : Int32) : ∃ m', Fr sK m m' ∧ LC_next D 3 c a b w m = yI (sp_next v c a b w) m' := by
  obtain ⟨d, rfl⟩ : ∃ d, D = d + 6 := ⟨D - 6, by omega⟩
  obtain ⟨m', f, e⟩ := LC_bestMinute_s hv h (show 5 ≤ d + 5 by omega) c a b w false
  refine ⟨m', f, ?_⟩
  have e : LC_bestMinute (d + 5) 3 c a b w (0 : Int32) m = yI (sp_next v c a b w) m' := e
  rw [LC_next_e _ _ _ _ _ _ _ kd_3, e, bI_y]
theorem LC_fog_s {v : eV} (hv : Va v) {p : Nat} {m : eM} (h : Cn v p m) {D : Nat} (hD : 6 ≤ D) (c a b w : Int32) : ∃ m', Fr sK m m' ∧ LC_fog D 3 c a b w m = yI (sp_fog v c a b w) m' := by
  obtain ⟨d, rfl⟩ : ∃ d, D = d + 6 := ⟨D - 6, by omega⟩
  obtain ⟨m', f, e⟩ := LC_bestMinute_s hv h (show 5 ≤ d + 5 by omega) c a b w true
  refine ⟨m', f, ?_⟩
  have e : LC_bestMinute (d + 5) 3 c a b w (1 : Int32) m = yI (sp_fog v c a b w) m' := e
  rw [LC_fog_e _ _ _ _ _ _ _ kd_3, e, bI_y]
