/-! ===== the law's loop ===== -/
theorem sub7 {L k : Nat} (hL : L ≤ 3584) (hk : k ≤ 3584) : (nI L - (7 : Int32) < nI k) ↔ L < k + 7 := by
  by_cases z : 7 ≤ L
  · obtain ⟨l, rfl⟩ : ∃ l, L = l + 7 := ⟨L - 7, by omega⟩
    have e : nI (l + 7) - (7 : Int32) = nI l := by
      rw [← nI_add, show (7 : Int32) = nI 7 from rfl, Int32.add_sub_cancel]
    rw [e, n_lt (by omega) (by omega)]
    omega
  · have e : (nI L - (7 : Int32)).toInt = (L : Int) - 7 := by
      rcases (by omega : L = 0 ∨ L = 1 ∨ L = 2 ∨ L = 3 ∨ L = 4 ∨ L = 5 ∨ L = 6) with y | y | y | y | y | y | y <;> subst y <;> decide
    rw [Int32.lt_iff_toInt_lt, e, nI_toInt (by omega)]
    omega
theorem gl_0 {o : oX} : gl 0 o = o := if_pos ⟨by rw [kd_0.1]; decide, by rw [kd_0.1]; decide⟩
theorem law_loop {d L : Nat} {xs : Nat → Int32} (hd : 100 ≤ d) (hL : L ≤ 3584) : ∀ j n m w5 w6, L < 7 * n + 7 * j + 7 → 7 * n ≤ L → LI L xs n m → ∃ m', La_law_23 (d + 1) 0 3 208 258 (nI (7 * n)) w5 w6 m = yI 1 m' ∧ gH m' ≤ 601024 ∧ gS m' ≤ 7293034 := by
  intro j
  have stop : ∀ n m w5 w6, L < 7 * n + 7 → 7 * n ≤ L → LI L xs n m → ∃ m', La_law_23 (d + 1) 0 3 208 258 (nI (7 * n)) w5 w6 m = yI 1 m' ∧ gH m' ≤ 601024 ∧ gS m' ≤ 7293034 := fun n m w5 w6 h1 h2 h => by
    obtain ⟨v, t, tp, V, p, hJ⟩ := h
    obtain ⟨-, ⟨-, hN⟩, -, c1, c2⟩ := hJ.2.2
    refine ⟨m, ?_, by omega, by omega⟩
    rw [La_law_23_e _ _ _ _ _ _ _ _ _ kd_3 kd_208, gl_0, show aln m 0 = L from hN, toI, if_pos ((sub7 hL (by omega)).mpr h1)]
  induction j with
  | zero => intro n m w5 w6 h1 h2 h; exact stop n m w5 w6 (by omega) h2 h
  | succ j ih =>
    intro n m w5 w6 h1 h2 h
    by_cases z : L < 7 * n + 7
    · exact stop n m w5 w6 z h2 h
    · obtain ⟨v, t, tp, V, p, hJ⟩ := h
      have s := hJ.2.2.2.1
      obtain ⟨m2, y5, y6, h3, e3⟩ := law_call (w5 := w5) (w6 := w6) hd hJ (i := 7 * n) (by omega) hL ((gI m 0 (nI (7 * n)).toNatClampNeg) &&& (63 : Int32))
      obtain ⟨m', e, q1, q2⟩ := ih (n + 1) m2 y5 y6 (by omega) (by omega) h3
      refine ⟨m', ?_, q1, q2⟩
      have ga0 : ∀ o, ga m 0 20 (nI (7 * n)) o = o := fun o => by
        have := sc_ga s (i := 7 * n) (k := 0) (by decide) (by omega) hL o
        rw [nI_add] at this
        exact this
      rw [La_law_23_e _ _ _ _ _ _ _ _ _ kd_3 kd_208, gl_0, show aln m 0 = L from s.2, toI, if_neg (fun q => z ((sub7 hL (by omega)).mp q)), ga0, e3, La_law_1818_e _ _ _ _ _ _ _ _ _ kd_3 kd_208, show (7 : Int32) = nI 7 from rfl, nI_add, show 7 * n + 7 = 7 * (n + 1) by omega]
      exact e
theorem em0_IS (L : Nat) (xs : Nat → Int32) : IS L xs 3 [] [] 0 (em0 L xs) := by
  refine ⟨⟨rfl, rfl, Nat.le_refl _, rfl⟩, fun _ _ => rfl, fun a j => ?_, fun _ _ => rfl⟩
  rw [if_neg (fun q => by cases q.1)]
theorem law_true {L : Nat} {xs : Nat → Int32} (hL : L ≤ 3584) : ∃ m', La_law 2000 0 (em0 L xs) = yI 1 m' ∧ gH m' ≤ 601024 ∧ gS m' ≤ 7293034 := by
  have h0 := em0_IS L xs
  have h1 : IS L xs 4 [] [] 12 (sN (em0 L xs) 12) := h0.n rfl 12
  obtain ⟨m4, e4, h4⟩ := LC_i h1 1996
  have h5 : IS L xs 209 wB [174, 139, 104, 69, 10] _ (sN m4 69) := h4.n rfl 69
  obtain ⟨m8, e8, h8⟩ := Mo_i h5 1998
  obtain ⟨⟨x1, x2, x3, x4⟩, i8, l8, r8⟩ := h8
  have sk8 : Sk m8 := fun q hq => (r8 _ _).trans (eq_of_beq (List.all_eq_true.mp wM_sk q hq))
  have e9 := Mo_forgets_s 1998 sk8
  obtain ⟨m9, hm9⟩ : ∃ m9, m9 = sL (sI (sI (sI (sI m8 210 0 0) 210 1 0) 210 2 0) 218 0 1) 219 0 1 := ⟨_, rfl⟩
  rw [← hm9] at e9
  have e8 : Mo_init 1999 208 (sN m4 69) = yV m9 := by
    rw [e8]
    show bV (Mo_forgets 1998 208 m8) (fun m' => yV m') = _
    rw [e9, bV_y]
  have x9 : gX m9 = 258 := by rw [hm9]; exact x1
  have e4 : LC_init 1999 3 (sN (em0 L xs) 12) = yV m4 := e4
  have hI : LI L xs 0 (sN m9 1) := by
    refine first_LI (fun a j => ?_) (fun a j => ?_) (fun a j => ?_) ⟨?_, ?_, ?_, ?_⟩
    · rw [hm9]; exact r8 a j
    · show gI m9 a j = _
      rw [hm9]
      show gI (sI (sI (sI (sI m8 210 0 0) 210 1 0) 210 2 0) 218 0 1) a j = _
      rw [gI_sI]
      by_cases z : a = 218 ∧ j = 0
      · rw [if_pos z, if_pos z]
      · rw [if_neg z, if_neg z, gI_sI]
        have e0 : a = 210 → gI m8 a j = 0 := fun q => by
          rw [i8]
          exact if_neg (by omega)
        have e1 : gI m8 a j = if a = 0 ∧ j < L then xs j else 0 := i8 a j
        by_cases y : a = 210
        · rw [if_neg (show ¬ (a = 0 ∧ j < L) by omega), gI_sI, gI_sI, e0 y]
          split
          · rfl
          · split
            · rfl
            · split <;> rfl
        · rw [if_neg (fun q => y q.1), gI_sI, if_neg (fun q => y q.1), gI_sI, if_neg (fun q => y q.1), e1]
    · show gL m9 a j = _
      rw [hm9, gL_sL]
      show (if a = 219 ∧ j = 0 then 1 else gL m8 a j) = _
      rw [l8]
      rfl
    · show gX m9 + 1 = _
      rw [x9]
    · show gH m9 + 1 ≤ _
      have : gH m9 = gH m8 := by rw [hm9]; rfl
      omega
    · show gS m9 + 1 ≤ _
      have : gS m9 = gS m8 := by rw [hm9]; rfl
      omega
    · show gN m9 = _
      rw [hm9]; exact x4
  obtain ⟨m', e, q1, q2⟩ := law_loop (d := 1999) (by decide) hL 512 0 (sN m9 1) eU eU (by omega) (by omega) hI
  refine ⟨m', ?_, q1, q2⟩
  have n258 : ∀ K : Nat → eM → oX, nA m9 21 (1 : Int32) K = K 258 (sN m9 1) := fun K => by
    have := nA_y (m := m9) (t := 21) (n := 1) (K := K) (by rw [x9]; exact kk_258) (by decide)
    rw [x9] at this
    exact this
  have x0 : gX (em0 L xs) = 3 := rfl
  have x4' : gX m4 = 208 := h4.1.1
  rw [La_law_e, nw_y (by rw [x0]; exact kd_3), x0, gd_y kd_3, e4, bV_y, nw_y (by rw [x4']; exact kd_208), x4', gd_y kd_208, e8, bV_y, n258]
  exact e
