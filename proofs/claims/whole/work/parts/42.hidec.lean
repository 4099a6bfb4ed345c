/-! ===== HIDDEN, HIDE: the class ===== -/
theorem stT_22 : stT 22 := by unfold stT; decide +kernel
theorem stT_28 : stT 28 := by unfold stT; decide +kernel
theorem stT_49 : stT 49 := by unfold stT; decide +kernel
theorem TkR_49 {m : eM} (hs : Sk m) : TkR 49 m := ⟨rf_49_0 hs, rf_49_1 hs, rf_49_2 hs, rf_49_3 hs, rf_49_4 hs⟩
theorem sT49_K {m m' : eM} (f : Fr (sTt 49) m m') : Fr sK m m' := f.up fun a k h => sTt_n (by
  have : ¬ (46 ≤ a ∧ a ≤ 67) := of_decide_eq_false h
  omega)
theorem of49 {v : eV} {p : Nat} {m : eM} (h : Cn v p m) : ofA 49 p := ⟨by omega, h.of.2⟩
theorem TkP.aim {v : eV} {n : Nat} {g : Nat → Nat} {m m' : eM} (h : TkP v 49 n g m) (f : Fr sA m m') : TkP v 49 n g m' := h.fr f fun a k _ _ => sA_n (by omega) (by omega)
theorem TkP.pl {v : eV} {t n : Nat} {g : Nat → Nat} {m : eM} (h : TkP v t n g m) (c mn w : Nat) : ptN v g c mn w n = 6 ∨ ptN v g c mn w n < nP v := ptN_lt fun k hk => (h.e hk).2.2.2.2.2.1
theorem Ai_groupOf_11_s {x : Nat} (hx : x < 64) (G : Nat → Int64) {m : eM} (hG : ∀ q, q < 7 → gL m 48 q = G q) (d : Nat) {q0 : Nat} (hq0 : q0 < 7) (h1 : tb (G q0) x = true) : ∀ j q w5, q + j = 7 → (∀ i, i < q → tb (G i) x = false) → (∀ i, i < q0 → tb (G i) x = false) → Ai_groupOf_11 (d + 1) 46 (nI x) 48 (nI 7) (nI q) w5 m = yL (G q0) m
  | 0, q, w5, e, h2, h3 => by
    exfalso
    have := h2 q0 (by omega)
    rw [h1] at this; cases this
  | j + 1, q, w5, e, h2, h3 => by
    rw [Ai_groupOf_11_e _ _ _ _ _ _ _ _ kd_46, if_neg (by rw [n_le (by omega) (by omega)]; omega), ga_48 (by omega), n_cl (by omega), hG q (by omega), LC_holds_s _ _ hx, br0]
    by_cases z : tb (G q) x = true
    · rw [if_pos z]
      have : q = q0 := by
        rcases Nat.lt_trichotomy q q0 with y | y | y
        · have := h3 q y; rw [z] at this; cases this
        · exact y
        · have := h2 q0 y; rw [h1] at this; cases this
      rw [this]
    · rw [if_neg z, nI_1]
      exact Ai_groupOf_11_s hx G hG d hq0 h1 j (q + 1) _ (by omega) (fun i hi => by
        by_cases y : i = q
        · subst y; rwa [Bool.not_eq_true] at z
        · exact h2 i (by omega)) h3
theorem Ai_groupOf_s {x : Nat} (hx : x < 64) (G : Nat → Int64) {m : eM} (hs : Sk m) (hG : ∀ q, q < 7 → gL m 48 q = G q) {D : Nat} (hD : 1 ≤ D) {q0 : Nat} (hq0 : q0 < 7) (h1 : tb (G q0) x = true) (h3 : ∀ i, i < q0 → tb (G i) x = false) : Ai_groupOf D 46 (nI x) m = yL (G q0) m := by
  obtain ⟨d, rfl⟩ : ∃ d, D = d + 1 := ⟨D - 1, by omega⟩
  rw [Ai_groupOf_e _ _ _ _ kd_46, rf_46_1 hs, bR_s, gl_48, al_48, toI]
  exact Ai_groupOf_11_s hx G hG d hq0 h1 7 0 eU (by omega) (fun i hi => absurd hi (Nat.not_lt_zero i)) h3
theorem LC_isHidden_74_s {v : eV} (hv : Va v) {p : Nat} (d : Nat) {s : Nat} (hs0 : s < nS v) (x2 : Int32) {r : Nat → Nat} {n : Nat} : ∀ j k m, Cn v p m → TkP v 49 n r m → k + j = nWt v → ∃ m', Fr sK m m' ∧ LC_isHidden_74 (d + 3) 3 (nI s) x2 (hidM v r n k) (nI k) m = yI (bb (decide (hidM v r n (nWt v) = 0 ∨ ¬ hidM v r n (nWt v) &&& soV v s = 0))) m'
  | 0, k, m, h, hT, e => by
    have hs := h.sk
    have hnW := hv.wt
    refine ⟨m, Fr.rfl', ?_⟩
    rw [LC_isHidden_74_e _ _ _ _ _ _ _ kd_3, rf_3_2 hs, bR_s, gd9, rf_9_4 hs, bR_s, gd39, Lo_size_e _ _ _ kd_39, h.w.2.2.1, bI_y, if_pos (by rw [n_le (by omega) (by omega)]; omega), rf_3_2 hs, bR_s, gd9, rf_9_1 hs, bR_s, gd22, Tk_so_s h.t (by omega) hs0, bL_y, show nWt v = k by omega]
    by_cases z : hidM v r n k = 0
    · rw [if_pos ((cmp0 _ _).mpr z), decide_eq_true (Or.inl z)]; rfl
    · rw [if_neg (fun q => z ((cmp0 _ _).mp q))]
      by_cases y : hidM v r n k &&& soV v s = 0
      · rw [if_pos ((cmp0 _ _).mpr y), decide_eq_false (fun q => q.elim z fun w => w y)]; rfl
      · rw [if_neg (fun q => y ((cmp0 _ _).mp q)), decide_eq_true (Or.inr y)]; rfl
  | j + 1, k, m, h, hT, e => by
    have hs := h.sk
    have hnW := hv.wt
    have hnP := hv.p
    have hW := W_le hv
    have htr := hv.tr
    obtain ⟨a1, a2⟩ := hv.wa (show k < nWt v by omega)
    obtain ⟨m1, f1, e1, h1, h2⟩ := Ai_take_s hv (show 2 ≤ d + 2 by omega) a1 (show wtM v k < 2000 by omega) (allM v) (of49 h) hT h.p hs
    have hc := h.q (sA_K f1)
    have hs1 := hc.sk
    obtain ⟨m2, f2, e2⟩ := LC_isHidden_74_s hv d hs0 x2 (r := r) (n := n) j (k + 1) m1 hc (hT.aim f1) (by omega)
    refine ⟨m2, (sA_K f1).tr f2, ?_⟩
    have p7 : ∀ w, ptN v r (wtC v k) (wtM v k) w n < 7 := fun w => by rcases hT.pl (wtC v k) (wtM v k) w with z | z <;> omega
    have hG := gr_t p7 h2
    have hf := fir_le v (ptN v r (wtC v k) (wtM v k) (tru v) n)
    have h7 := p7 (tru v)
    have eg := Ai_groupOf_s (show tru v < 64 by omega) (fun q => mk fun w => tb (allM v) w && decide (fir v (ptN v r (wtC v k) (wtM v k) w n) = q)) hs1 hG (show 1 ≤ d + 2 by omega) (q0 := fir v (ptN v r (wtC v k) (wtM v k) (tru v) n)) (by omega) (by
      unfold allM
      rw [t_mk _ (by omega), t_mk _ (by omega), decide_eq_true htr, decide_eq_true rfl]; rfl) (fun i hi => by
      rw [t_mk _ (by omega), decide_eq_false (show ¬ fir v (ptN v r (wtC v k) (wtM v k) (tru v) n) = i by omega), Bool.and_false])
    rw [LC_isHidden_74_e _ _ _ _ _ _ _ kd_3, rf_3_2 hs, bR_s, gd9, rf_9_4 hs, bR_s, gd39, Lo_size_e _ _ _ kd_39, h.w.2.2.1, bI_y, if_neg (by rw [n_le (by omega) (by omega)]; omega)]
    simp only [rf_3_2 hs, rf_3_5 hs, rf_3_6 hs, rf_9_4 hs, h.r0, bR_s, gd9, gd39, gd46, h.gp, Lo_cock_s h.w (show 1 ≤ d + 2 by omega) (show k < nWt v by omega), Lo_minute_s h.w (show 1 ≤ d + 2 by omega) (show k < nWt v by omega), bI_y, Pa_allWorlds_s hv h.p, bL_y, e1, bV_y, rf_3_2 hs1, rf_3_5 hs1, hc.tr, eg, nI_1]
    rw [← e2]
    refine congrArg (fun z => LC_isHidden_74 (d + 3) 3 (nI s) x2 z (nI (k + 1)) m1) ?_
    show _ = hidM v r n k &&& mk _
    refine congrArg (hidM v r n k &&& ·) (mk_c fun w hw => ?_)
    unfold allM wtB
    rw [t_mk _ hw]
    refine congrArg (decide (w < 2 ^ nF v) && ·) (decide_eq_decide.mpr ?_)
    rw [fir_e (hT.pl _ _ _) (hT.pl _ _ _) hnP, peB_be hv (hT.pl _ _ _), peB_be hv (hT.pl _ _ _)]
theorem LC_isHidden_16_s {v : eV} (hv : Va v) {p : Nat} (d : Nat) {s set : Nat} (hs0 : s < nS v) (hset : set < 64) : ∀ j k m, Cn v p m → TkP v 49 (rN v set k).2 (rN v set k).1 m → k + j = nO v → ∃ m', Fr sK m m' ∧ LC_isHidden_16 (d + 4) 3 (nI s) (nI set) (nI k) m = yI (bb (hidV v s set)) m'
  | 0, k, m, h, hT, e => by
    have hs := h.sk
    have hnO := hv.o
    obtain ⟨m2, f2, e2⟩ := LC_isHidden_74_s hv (d + 1) hs0 (nI set) (r := (rN v set k).1) (n := (rN v set k).2) (nWt v) 0 m h hT (by omega)
    refine ⟨m2, f2, ?_⟩
    rw [LC_isHidden_16_e _ _ _ _ _ _ kd_3, rf_3_2 hs, bR_s, gd9, rf_9_2 hs, bR_s, gd28, Tk_size_e _ _ _ kd_28, h.o.2.2.1, bI_y, if_pos (by rw [n_le (by omega) (by omega)]; omega), rf_3_2 hs, bR_s, gd9, h.r0, bR_s, h.gp, Pa_commonWorlds_s h.p, bL_y]
    unfold hidV
    rw [show nO v = k by omega]
    exact e2
  | j + 1, k, m, h, hT, e => by
    have hs := h.sk
    have hnO := hv.o
    have hnS := hv.s
    have hn := rN_n v set k
    rw [LC_isHidden_16_e _ _ _ _ _ _ kd_3, rf_3_2 hs, bR_s, gd9, rf_9_2 hs, bR_s, gd28, Tk_size_e _ _ _ kd_28, h.o.2.2.1, bI_y, if_neg (by rw [n_le (by omega) (by omega)]; omega), bitI (by omega) (by omega), nI_1]
    simp only [bb_1]
    by_cases z : set.testBit k = true
    · have er : rN v set (k + 1) = (insF v (rN v set k).1 (rN v set k).2 (24 + k), (rN v set k).2 + 1) := if_pos z
      obtain ⟨m1, f1, e1, hT1⟩ := Tk_insert_s (show 3 ≤ d + 3 by omega) (show 49 + 5 < 28 ∨ 28 + 5 < 49 by omega) (show k < nO v by omega) (show (rN v set k).2 < 31 by omega) hT h.o
      obtain ⟨m2, f2, e2⟩ := LC_isHidden_16_s hv d hs0 hset j (k + 1) m1 (h.q (sT49_K f1)) (by rw [er]; exact hT1) (by omega)
      refine ⟨m2, (sT49_K f1).tr f2, ?_⟩
      rw [if_neg (fun q => q z), rf_3_6 hs, bR_s, rf_3_2 hs, bR_s, gd9, rf_9_2 hs, bR_s, gd49, e1, bV_y]
      exact e2
    · have er : rN v set (k + 1) = rN v set k := if_neg z
      obtain ⟨m2, f2, e2⟩ := LC_isHidden_16_s hv d hs0 hset j (k + 1) m h (by rw [er]; exact hT) (by omega)
      refine ⟨m2, f2, ?_⟩
      rw [if_pos z]
      exact e2
theorem LC_isHidden_s {v : eV} (hv : Va v) {p : Nat} {m : eM} (h : Cn v p m) {D : Nat} (hD : 4 ≤ D) {s set : Nat} (hs0 : s < nS v) (hset : set < 64) : ∃ m', Fr sK m m' ∧ LC_isHidden D 3 (nI s) (nI set) m = yI (bb (hidV v s set)) m' := by
  obtain ⟨d, rfl⟩ : ∃ d, D = d + 4 := ⟨D - 4, by omega⟩
  have hs := h.sk
  obtain ⟨m1, f1, e1, hT1⟩ := Tk_copy_s (show 3 ≤ d + 3 by omega) (show 49 + 5 < 22 ∨ 22 + 5 < 49 by omega) stT_49 (TkR_49 hs) h.t
  obtain ⟨m2, f2, e2⟩ := LC_isHidden_16_s hv d hs0 hset (nO v) 0 m1 (h.q (sT49_K f1)) hT1 (by omega)
  refine ⟨m2, (sT49_K f1).tr f2, ?_⟩
  rw [LC_isHidden_e _ _ _ _ _ kd_3, rf_3_6 hs, bR_s, rf_3_2 hs, bR_s, gd9, rf_9_1 hs, bR_s, gd49, e1, bV_y]
  exact e2
theorem LC_isPlainLie_s {v : eV} (hv : Va v) {p : Nat} {m : eM} (h : Cn v p m) {D : Nat} (hD : 2 ≤ D) (s : Int32) : LC_isPlainLie D 3 s m = yI (bb (plV v s (lawV v 0))) m := by
  obtain ⟨d, rfl⟩ : ∃ d, D = d + 2 := ⟨D - 2, by omega⟩
  have hs := h.sk
  have hnS := hv.s
  have htr := hv.tr
  have hW := W_le hv
  have hla := hv.la (j := 0) (by decide)
  rw [LC_isPlainLie_e _ _ _ _ kd_3, rf_3_2 hs, bR_s, gd9, rf_9_1 hs, bR_s, gd22, Tk_isIn_s h.t, br0]
  unfold plV
  by_cases z : inN s (nS v) = true
  · rw [if_pos z, z, Bool.true_and]
    obtain ⟨k, hk, rfl⟩ := inN_of (by omega) z
    have el : Pa_law (d + 1) p (0 : Int32) m = yI (nI (lawV v 0)) m := Pa_law_s h.p (show 1 ≤ d + 1 by omega) (show 0 < 2 by decide)
    rw [rf_3_2 hs, bR_s, gd9, rf_9_1 hs, bR_s, bR_s, gd9, h.r0, bR_s, h.gp, el, bI_y, gd22, Tk_lies_s h.t (by omega) hk (by omega), bL_y, rf_3_2 hs, bR_s, gd9, h.tr, LC_holds_s _ _ (by omega), br0, lieM_t htr (by omega), n_cl (by omega), yI_if]
  · rw [if_neg z]
    rw [Bool.not_eq_true] at z
    rw [z]; rfl
theorem LC_hidden_s {v : eV} (hv : Va v) {p : Nat} {m : eM} (h : Cn v p m) {D : Nat} (hD : 5 ≤ D) (s o : Int32) : ∃ m', Fr sK m m' ∧ LC_hidden D 3 s o m = yI (sp_hidden v s o) m' := by
  obtain ⟨d, rfl⟩ : ∃ d, D = d + 5 := ⟨D - 5, by omega⟩
  have hs := h.sk
  have hnO := hv.o
  have hnS := hv.s
  have hO := O_le hv
  rw [LC_hidden_e _ _ _ _ _ kd_3, LC_isPlainLie_s hv h (by omega), br0, rf_3_2 hs, bR_s, gd9, rf_9_2 hs, bR_s, gd28, Tk_size_e _ _ _ kd_28, h.o.2.2.1, bI_y, LC_isSet_s _ o (by omega), br1]
  unfold sp_hidden
  by_cases z1 : plV v s (lawV v 0) = true
  · rw [if_pos z1, if_pos z1]
    by_cases z2 : inN o (2 ^ nO v) = true
    · rw [if_pos z2, if_pos z2]
      obtain ⟨u, hu, rfl⟩ := inN_of (by omega) z2
      have z3 := z1
      unfold plV at z3
      rw [Bool.and_eq_true] at z3
      obtain ⟨k, hk, rfl⟩ := inN_of (by omega) z3.1
      obtain ⟨m1, f1, e1⟩ := LC_isHidden_s hv h (show 4 ≤ d + 4 by omega) hk (show u < 64 by omega)
      refine ⟨m1, f1, ?_⟩
      rw [e1, br0, n_cl (by omega), n_cl (by omega), yI_if]
    · rw [if_neg z2, if_neg z2]
      exact ⟨_, Fr.rfl', rfl⟩
  · rw [if_neg z1, if_neg z1]
    exact ⟨_, Fr.rfl', rfl⟩
theorem LC_hide_22_s {v : eV} (hv : Va v) {p : Nat} (d : Nat) {s : Nat} (hs0 : s < nS v) (w : Int32) : ∀ j n m, Cn v p m → n + j = 2 ^ nO v → ∃ m', Fr sK m m' ∧ LC_hide_22 (d + 5) 3 (nI s) w (oI (few (hidV v s) n)) (nI n) m = yI (sos (few (hidV v s) (2 ^ nO v)) w) m'
  | 0, n, m, h, e => by
    have hs := h.sk
    have hO := O_le hv
    have hnO := hv.o
    refine ⟨m, Fr.rfl', ?_⟩
    rw [LC_hide_22_e _ _ _ _ _ _ _ kd_3, rf_3_2 hs, bR_s, gd9, rf_9_2 hs, bR_s, gd28, Tk_size_e _ _ _ kd_28, h.o.2.2.1, bI_y, shl1 _ (by omega), if_pos (by rw [n_le (by omega) (by omega)]; omega), LC_sizeOrSet_s (by omega) (few_b (by omega)), bI_y, show 2 ^ nO v = n by omega]
  | j + 1, n, m, h, e => by
    have hs := h.sk
    have hO := O_le hv
    have hnO := hv.o
    rw [LC_hide_22_e _ _ _ _ _ _ _ kd_3, rf_3_2 hs, bR_s, gd9, rf_9_2 hs, bR_s, gd28, Tk_size_e _ _ _ kd_28, h.o.2.2.1, bI_y, shl1 _ (by omega), if_neg (by rw [n_le (by omega) (by omega)]; omega), LC_isFewer_s (by omega) (by omega) (few_b (by omega)), br0, nI_1]
    by_cases y : fwr n (few (hidV v s) n) = true
    · obtain ⟨m1, f1, e1⟩ := LC_isHidden_s hv h (show 4 ≤ d + 4 by omega) hs0 (show n < 64 by omega)
      obtain ⟨m2, f2, e2⟩ := LC_hide_22_s hv d hs0 w j (n + 1) m1 (h.q f1) (by omega)
      refine ⟨m2, f1.tr f2, ?_⟩
      rw [if_pos y, e1, br0, ← e2, few_s, y, Bool.and_true]
      by_cases z : hidV v s n = true
      · rw [if_pos z, if_pos z]; rfl
      · rw [if_neg z, if_neg z]
    · obtain ⟨m2, f2, e2⟩ := LC_hide_22_s hv d hs0 w j (n + 1) m h (by omega)
      refine ⟨m2, f2, ?_⟩
      rw [if_neg y, ← e2, few_s]
      rw [Bool.not_eq_true] at y
      rw [y, Bool.and_false]
      rfl
theorem LC_hide_s {v : eV} (hv : Va v) {p : Nat} {m : eM} (h : Cn v p m) {D : Nat} (hD : 5 ≤ D) (s w : Int32) : ∃ m', Fr sK m m' ∧ LC_hide D 3 s w m = yI (sp_hide v s w) m' := by
  obtain ⟨d, rfl⟩ : ∃ d, D = d + 5 := ⟨D - 5, by omega⟩
  have hnS := hv.s
  rw [LC_hide_e _ _ _ _ _ kd_3, LC_isPlainLie_s hv h (by omega), br0, LC_isWhat_s, br1]
  unfold sp_hide
  by_cases z1 : plV v s (lawV v 0) = true
  · rw [if_pos z1, if_pos z1]
    by_cases z2 : inN w 2 = true
    · rw [if_pos z2, if_pos z2]
      have z3 := z1
      unfold plV at z3
      rw [Bool.and_eq_true] at z3
      obtain ⟨k, hk, rfl⟩ := inN_of (by omega) z3.1
      rw [n_cl (by omega)]
      exact LC_hide_22_s hv d hk w (2 ^ nO v) 0 m h (by omega)
    · rw [if_neg z2, if_neg z2]
      exact ⟨_, Fr.rfl', rfl⟩
  · rw [if_neg z1, if_neg z1]
    exact ⟨_, Fr.rfl', rfl⟩
