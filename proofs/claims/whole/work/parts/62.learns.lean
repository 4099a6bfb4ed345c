/-! ===== LEARNS: the reference ===== -/
def r30 (v : eV) : Nat → Nat := fun i => if i = nS v then 30 else i
def lnS (v : eV) (f : Nat) (so : Int32) : Int64 := mk fun w => decide (w < 2 ^ nF v) && (w.testBit f == !decide (so = 0))
def lnV (v : eV) (p f : Nat) (so : Int32) (mn : Nat) : eV := v30 v p mn (lnS v f so)
def lnB (v : eV) (c mn w : Nat) : Nat := beN v (ptN v (r30 v) c mn w (nS v + 1))
def lnW (v : eV) (p : Nat) : Int64 := canV v &&& mk (likeV v (kno v p) (tru v))
def sn (S : Int64) (f : Nat) (be : Nat → Nat) (b : Nat) : Nat → Nat
  | 0 => 0
  | k + 1 => if tb S k = true ∧ be k = b then sn S f be b k ||| (if k.testBit f = true then 1 else 2) else sn S f be b k
theorem sn_s (S : Int64) (f : Nat) (be : Nat → Nat) (b k : Nat) : sn S f be b (k + 1) = if tb S k = true ∧ be k = b then sn S f be b k ||| (if k.testBit f = true then 1 else 2) else sn S f be b k := rfl
theorem sn_lt (S : Int64) (f : Nat) (be : Nat → Nat) (b : Nat) : ∀ k, sn S f be b k < 2 ^ 2
  | 0 => Nat.pow_pos (by decide)
  | k + 1 => by
    have ih := sn_lt S f be b k
    rw [sn_s]
    split
    · refine Nat.or_lt_two_pow ih ?_
      split <;> decide
    · exact ih
def okL (S : Int64) (f : Nat) (be : Nat → Nat) : Nat → Bool
  | 0 => true
  | k + 1 => if tb S k = true then okL S f be k && decide (sn S f be (be k) (k + 1) < 3) else okL S f be k
theorem okL_s (S : Int64) (f : Nat) (be : Nat → Nat) (k : Nat) : okL S f be (k + 1) = if tb S k = true then okL S f be k && decide (sn S f be (be k) (k + 1) < 3) else okL S f be k := rfl
/-- no two of the worlds that look the same differ in the fact -/
theorem sn_1 {S : Int64} {f : Nat} {be : Nat → Nat} {b : Nat} : ∀ {k : Nat}, ((sn S f be b k).testBit 0 = true ↔ ∃ w, w < k ∧ tb S w = true ∧ be w = b ∧ w.testBit f = true) ∧ ((sn S f be b k).testBit 1 = true ↔ ∃ w, w < k ∧ tb S w = true ∧ be w = b ∧ ¬ w.testBit f = true)
  | 0 => ⟨⟨fun h => absurd (show (0 : Nat).testBit 0 = true from h) (by decide), fun ⟨w, h, _⟩ => absurd h (Nat.not_lt_zero w)⟩, ⟨fun h => absurd (show (0 : Nat).testBit 1 = true from h) (by decide), fun ⟨w, h, _⟩ => absurd h (Nat.not_lt_zero w)⟩⟩
  | k + 1 => by
    obtain ⟨ih1, ih2⟩ := sn_1 (S := S) (f := f) (be := be) (b := b) (k := k)
    rw [sn_s]
    by_cases z : tb S k = true ∧ be k = b
    · rw [if_pos z, Nat.testBit_or, Nat.testBit_or, Bool.or_eq_true, Bool.or_eq_true, ih1, ih2]
      by_cases y : k.testBit f = true
      · rw [if_pos y]
        refine ⟨⟨fun _ => ⟨k, by omega, z.1, z.2, y⟩, fun _ => Or.inr rfl⟩, ⟨?_, ?_⟩⟩
        · rintro (⟨w, h, r⟩ | h)
          · exact ⟨w, by omega, r⟩
          · exact absurd h (by decide)
        · rintro ⟨w, h, r1, r2, r3⟩
          refine Or.inl ⟨w, ?_, r1, r2, r3⟩
          by_cases x : w = k
          · subst x; exact absurd y r3
          · omega
      · rw [if_neg y]
        refine ⟨⟨?_, ?_⟩, ⟨fun _ => ⟨k, by omega, z.1, z.2, y⟩, fun _ => Or.inr rfl⟩⟩
        · rintro (⟨w, h, r⟩ | h)
          · exact ⟨w, by omega, r⟩
          · exact absurd h (by decide)
        · rintro ⟨w, h, r1, r2, r3⟩
          refine Or.inl ⟨w, ?_, r1, r2, r3⟩
          by_cases x : w = k
          · subst x; exact absurd r3 y
          · omega
    · rw [if_neg z, ih1, ih2]
      have key : ∀ w, w < k + 1 → tb S w = true → be w = b → w < k := fun w h1 h2 h3 => by
        by_cases x : w = k
        · subst x; exact absurd ⟨h2, h3⟩ z
        · omega
      refine ⟨⟨fun ⟨w, h, r⟩ => ⟨w, by omega, r⟩, fun ⟨w, h, r1, r2, r3⟩ => ⟨w, key w h r1 r2, r1, r2, r3⟩⟩, ⟨fun ⟨w, h, r⟩ => ⟨w, by omega, r⟩, fun ⟨w, h, r1, r2, r3⟩ => ⟨w, key w h r1 r2, r1, r2, r3⟩⟩⟩
theorem lt3 : ∀ x, x < 4 → (x < 3 ↔ ¬ (x.testBit 0 = true ∧ x.testBit 1 = true)) := by decide
theorem okL_i {S : Int64} {f : Nat} {be : Nat → Nat} : ∀ {n : Nat}, okL S f be n = true ↔ ∀ w u, w < n → u < n → tb S w = true → tb S u = true → be w = be u → w.testBit f = true → u.testBit f = true
  | 0 => ⟨fun _ w u h => absurd h (Nat.not_lt_zero w), fun _ => rfl⟩
  | n + 1 => by
    have ih := okL_i (S := S) (f := f) (be := be) (n := n)
    rw [okL_s]
    by_cases z : tb S n = true
    · rw [if_pos z, Bool.and_eq_true, ih, decide_eq_true_iff, lt3 _ (sn_lt _ _ _ _ _), sn_1.1, sn_1.2]
      constructor
      · rintro ⟨h1, h2⟩ w u hw hu a1 a2 a3 a4
        by_cases y : u.testBit f = true
        · exact y
        · exfalso
          by_cases x : w = n
          · subst x; exact h2 ⟨⟨w, by omega, a1, rfl, a4⟩, ⟨u, hu, a2, a3.symm, y⟩⟩
          · by_cases x2 : u = n
            · subst x2; exact h2 ⟨⟨w, hw, a1, a3, a4⟩, ⟨u, by omega, a2, rfl, y⟩⟩
            · exact y (h1 w u (by omega) (by omega) a1 a2 a3 a4)
      · intro h
        refine ⟨fun w u hw hu => h w u (by omega) (by omega), ?_⟩
        rintro ⟨⟨w, b1, b2, b3, b4⟩, ⟨u, c1, c2, c3, c4⟩⟩
        exact c4 (h w u b1 c1 b2 c2 (b3.trans c3.symm) b4)
    · rw [if_neg z, ih]
      have key : ∀ w, w < n + 1 → tb S w = true → w < n := fun w h1 h2 => by
        by_cases x : w = n
        · subst x; exact absurd h2 z
        · omega
      exact ⟨fun h w u hw hu a1 a2 => h w u (key w hw a1) (key u hu a2) a1 a2, fun h w u hw hu => h w u (by omega) (by omega)⟩
theorem Mo_learns_197_s {v : eV} (d : Nat) (x1 x2 x3 x4 x5 : Int32) (y6 : Int64) : ∀ j k m, Sk m → (∀ b, b < k → gI m 249 b = 0) → k + j = 360 → ∃ m', Fr (fun a _ => decide (a = 249)) m m' ∧ Mo_learns_197 (d + 1) 208 x1 x2 x3 x4 x5 y6 (nI k) m = Mo_learns_225 (d + 1) 208 x1 x2 x3 x4 x5 y6 1 0 eU m' ∧ ∀ b, b < 360 → gI m' 249 b = 0
  | 0, k, m, hs, h, e => by
    obtain rfl : k = 360 := by omega
    exact ⟨m, Fr.rfl', by rw [Mo_learns_197_e _ _ _ _ _ _ _ _ _ _ kd_208, if_pos (by decide)], h⟩
  | j + 1, k, m, hs, h, e => by
    obtain ⟨m', f1, e1, h1⟩ := Mo_learns_197_s (v := v) d x1 x2 x3 x4 x5 y6 j (k + 1) (sI m 249 k 0) (hs.i _ _ _) (fun b hb => by
      by_cases z : b = k
      · subst z; exact gI_w _ _ _ _
      · rw [gI_sI, if_neg (fun q => z q.2)]; exact h b (by omega)) (by omega)
    refine ⟨m', (Fr.rfl'.i (by decide)).tr f1, ?_, h1⟩
    rw [Mo_learns_197_e _ _ _ _ _ _ _ _ _ _ kd_208, l_360, if_neg (by rw [n_le (by omega) (by omega)]; omega), rf_208_58 hs, bR_s, gw_249 (by omega), mI_u, n_cl (by omega), nI_1, e1]
theorem Mo_learns_225_s {v : eV} (hv : Va v) (d : Nat) (x1 x3 : Int32) {f mn c : Nat} (hf : f < nF v) (hc : c < 2) (hm : mn + lat v c < 1440) (y6 : Int64) {r : Nat → Nat} {n : Nat} : ∀ j w w10 m, Mp v m → Rw v r n m → (∀ b, b < 360 → gI m 249 b = nI (sn y6 f (fun w => beN v (ptN v r c (mn + lat v c) w n)) b w)) → w + j = 2 ^ nF v → ∃ m', Fr (fun a _ => decide (a = 249)) m m' ∧ Mo_learns_225 (d + 3) 208 x1 (nI f) x3 (nI mn) (nI c) y6 (bb (okL y6 f (fun w => beN v (ptN v r c (mn + lat v c) w n)) w)) (nI w) w10 m = yI (bb (okL y6 f (fun w => beN v (ptN v r c (mn + lat v c) w n)) (2 ^ nF v))) m'
  | 0, w, w10, m, h, hr, ha, e => by
    have hs := h.sk
    have hF := hv.f
    have hW := W_64 hv
    refine ⟨m, Fr.rfl', ?_⟩
    rw [Mo_learns_225_e _ _ _ _ _ _ _ _ _ _ _ _ kd_208]
    simp (disch := first | assumption | omega) only [bR_s, rf_208_10, gz_210, n_cl0, mp_f, shl1, n_le]
    rw [if_pos (by omega), show 2 ^ nF v = w by omega]
    cases okL y6 f (fun w => beN v (ptN v r c (mn + lat v c) w n)) w <;> rfl
  | j + 1, w, w10, m, h, hr, ha, e => by
    have hs := h.sk
    have hF := hv.f
    have hW := W_64 hv
    have hw6 : w < 64 := by omega
    have hb : beN v (ptN v r c (mn + lat v c) w n) < 360 := be_lt hv (hr.lt _ _ _)
    rw [Mo_learns_225_e _ _ _ _ _ _ _ _ _ _ _ _ kd_208]
    simp (disch := first | assumption | omega) only [bR_s, rf_208_10, gz_210, n_cl0, mp_f, shl1, n_le]
    rw [if_neg (by omega), Mo_isIn_s _ _ hw6, br1]
    by_cases z : tb y6 w = true
    · rw [if_pos z, rf_208_17 hs, bR_s, ga_217 (by omega), n_cl (by omega), mp_lat h hc, nI_add, Mo_bearingAt_s hv h hr (by omega) hc (by omega) hw6, bI_y, rf_208_58 hs, bR_s, ga_249 hb, n_cl (by omega), ha _ hb, bitI (by omega) (by omega), bb_1n]
      have hsn := sn_lt y6 f (fun w => beN v (ptN v r c (mn + lat v c) w n)) (beN v (ptN v r c (mn + lat v c) w n)) w
      have hsn1 := sn_lt y6 f (fun w => beN v (ptN v r c (mn + lat v c) w n)) (beN v (ptN v r c (mn + lat v c) w n)) (w + 1)
      have e1 : sn y6 f (fun w => beN v (ptN v r c (mn + lat v c) w n)) (beN v (ptN v r c (mn + lat v c) w n)) (w + 1) = sn y6 f (fun w => beN v (ptN v r c (mn + lat v c) w n)) (beN v (ptN v r c (mn + lat v c) w n)) w ||| (if w.testBit f = true then 1 else 2) := if_pos ⟨z, rfl⟩
      have eo : okL y6 f (fun w => beN v (ptN v r c (mn + lat v c) w n)) (w + 1) = (okL y6 f (fun w => beN v (ptN v r c (mn + lat v c) w n)) w && decide (sn y6 f (fun w => beN v (ptN v r c (mn + lat v c) w n)) (beN v (ptN v r c (mn + lat v c) w n)) (w + 1) < 3)) := if_pos z
      have key : ∀ P : Int32, P = nI (if w.testBit f = true then 1 else 2) → ∃ m', Fr (fun a _ => decide (a = 249)) m m' ∧ Mo_learns_294 (d + 3) 208 x1 (nI f) x3 (nI mn) (nI c) y6 (bb (okL y6 f (fun w => beN v (ptN v r c (mn + lat v c) w n)) w)) (nI w) (nI (beN v (ptN v r c (mn + lat v c) w n))) 249 (nI (beN v (ptN v r c (mn + lat v c) w n))) (nI (sn y6 f (fun w => beN v (ptN v r c (mn + lat v c) w n)) (beN v (ptN v r c (mn + lat v c) w n)) w)) P m = yI (bb (okL y6 f (fun w => beN v (ptN v r c (mn + lat v c) w n)) (2 ^ nF v))) m' := fun P hP => by
        have f1 : Fr (fun a _ => decide (a = 249)) m (sI m 249 (beN v (ptN v r c (mn + lat v c) w n)) (nI (sn y6 f (fun w => beN v (ptN v r c (mn + lat v c) w n)) (beN v (ptN v r c (mn + lat v c) w n)) (w + 1)))) := Fr.rfl'.i (by decide)
        have h1 : Mp v (sI m 249 (beN v (ptN v r c (mn + lat v c) w n)) (nI (sn y6 f (fun w => beN v (ptN v r c (mn + lat v c) w n)) (beN v (ptN v r c (mn + lat v c) w n)) (w + 1)))) := h.fr f1 fun a j q => by
          apply decide_eq_false
          intro q2
          subst q2
          have := of_decide_eq_true q
          omega
        have hs1 := h1.sk
        have hr1 : Rw v r n (sI m 249 (beN v (ptN v r c (mn + lat v c) w n)) (nI (sn y6 f (fun w => beN v (ptN v r c (mn + lat v c) w n)) (beN v (ptN v r c (mn + lat v c) w n)) (w + 1)))) := by
          obtain ⟨a1, a2, a3⟩ := hr
          refine ⟨(f1.1 _ _ (by decide)).trans a1, a2, fun i hi => ?_⟩
          obtain ⟨b1, ⟨c1, c2, c3, c4, c5, c6⟩, b3, b4⟩ := a3 i hi
          exact ⟨(f1.1 _ _ rfl).trans b1, ⟨c1, (f1.1 _ _ rfl).trans c2, (f1.1 _ _ rfl).trans c3, (f1.1 _ _ rfl).trans c4, (f1.2.1 _ _ rfl).trans c5, c6⟩, (f1.2.1 _ _ rfl).trans b3, (f1.2.1 _ _ rfl).trans b4⟩
        obtain ⟨m', f2, e2⟩ := Mo_learns_225_s hv d x1 x3 hf hc hm y6 j (w + 1) (.int (nI (beN v (ptN v r c (mn + lat v c) w n)))) _ h1 hr1 (fun b hb2 => by
          by_cases y : b = beN v (ptN v r c (mn + lat v c) w n)
          · subst y; exact gI_w _ _ _ _
          · rw [gI_sI, if_neg (fun q => y q.2), ha b hb2]
            refine congrArg nI ?_
            exact (if_neg (fun q => y q.2.symm)).symm) (by omega)
        refine ⟨m', f1.tr f2, ?_⟩
        rw [Mo_learns_294_e _ _ _ _ _ _ _ _ _ _ _ _ _ _ _ _ kd_208, gw_249 hb, mI_u, n_cl (n := beN v (ptN v r c (mn + lat v c) w n)) (by omega), hP, orN, ← e1, rf_208_58 hs1, bR_s, ga_249 hb, gI_w, nI_1, show (3 : Int32) = nI 3 from rfl, ← e2, eo]
        cases okL y6 f (fun w => beN v (ptN v r c (mn + lat v c) w n)) w
        · rw [if_pos (show bb false = 0 from rfl)]; rfl
        · rw [if_neg (by decide)]
          by_cases x : sn y6 f (fun w => beN v (ptN v r c (mn + lat v c) w n)) (beN v (ptN v r c (mn + lat v c) w n)) (w + 1) < 3
          · rw [if_neg (by rw [n_le (by omega) (by omega)]; omega), decide_eq_true x]; rfl
          · rw [if_pos (by rw [n_le (by omega) (by omega)]; omega), decide_eq_false x]; rfl
      by_cases y : w.testBit f = true
      · rw [if_pos y]; exact key 1 (by rw [if_pos y]; rfl)
      · rw [if_neg y]; exact key 2 (by rw [if_neg y]; rfl)
    · rw [if_neg z, nI_1]
      have eo : okL y6 f (fun w => beN v (ptN v r c (mn + lat v c) w n)) (w + 1) = okL y6 f (fun w => beN v (ptN v r c (mn + lat v c) w n)) w := if_neg z
      have := Mo_learns_225_s hv d x1 x3 hf hc hm y6 j (w + 1) w10 m h hr (fun b hb2 => by
        rw [ha b hb2]
        exact congrArg nI (if_neg (fun q => z q.1)).symm) (by omega)
      rw [eo] at this
      exact this
