/-! ===== the reference's step to the next token ===== -/
/-- the tape that is read -/
def TzM (s : eTp) (m : eM) : Prop := gI m 208 3 = nI s.1 ∧ s.1 ≤ 1000 ∧ (∀ i, i < s.1 → gI m 209 i = nI (s.2 i)) ∧ ∀ i, i < s.1 → s.2 i < 128
def sTm (a j : Nat) : Bool := a == 208 && decide (4 ≤ j ∧ j ≤ 8)
theorem sTm_n {a j : Nat} (h : a ≠ 208 ∨ j < 4 ∨ 8 < j) : sTm a j = false := by
  unfold sTm
  by_cases z : a = 208
  · rw [decide_eq_false (by omega), Bool.and_false]
  · simp [z]
theorem TzM.fr {s : eTp} {m m' : eM} {S : Nat → Nat → Bool} (h : TzM s m) (f : Fr S m m') (h1 : S 208 3 = false) (h2 : ∀ i, S 209 i = false) : TzM s m' := ⟨(f.1 _ _ h1).trans h.1, h.2.1, fun i hi => (f.1 _ _ (h2 i)).trans (h.2.2.1 i hi), h.2.2.2⟩
theorem TzM.st {s : eTp} {m m' : eM} (h : TzM s m) (f : Fr sTm m m') : TzM s m' := h.fr f (sTm_n (by omega)) fun i => sTm_n (by omega)
theorem Mo_bb_s (d : Nat) {s : eTp} : ∀ k i m, k = s.1 - i → i ≤ s.1 → Sk m → TzM s m → gI m 208 4 = nI i → ∃ m', Fr sTm m m' ∧ Mo_nextToken (d + 1) 208 m = Mo_nextToken_52 (d + 1) 208 m' ∧ gI m' 208 4 = nI (sk_ s (blk s) i)
  | 0, i, m, e, hi, hs, h, h4 => by
    have ht := h.2.1
    refine ⟨m, Fr.rfl', ?_, by rw [skN (fun q => by omega)]; exact h4⟩
    rw [Mo_nextToken_e _ _ _ kd_208, h.1, h4, if_pos (by rw [n_le (by omega) (by omega)]; omega)]
  | k + 1, i, m, e, hi, hs, h, h4 => by
    have ht := h.2.1
    have hc := h.2.2.2 i (by omega)
    have nx : s.2 i = 10 ∨ s.2 i = 32 → ∃ m', Fr sTm m m' ∧ Mo_nextToken (d + 1) 208 (sI m 208 4 (nI (i + 1))) = Mo_nextToken_52 (d + 1) 208 m' ∧ gI m' 208 4 = nI (sk_ s (blk s) i) := fun q => by
      have f1 : Fr sTm m (sI m 208 4 (nI (i + 1))) := Fr.rfl'.i rfl
      obtain ⟨m', f2, e2, g2⟩ := Mo_bb_s d k (i + 1) (sI m 208 4 (nI (i + 1))) (by omega) (by omega) hs (h.st f1) (gI_w _ _ _ _)
      exact ⟨m', f1.tr f2, e2, by rw [skY (by omega) (blk_i.mpr q)]; exact g2⟩
    rw [Mo_nextToken_e _ _ _ kd_208, h.1, h4, if_neg (by rw [n_le (by omega) (by omega)]; omega), rf_208_2 hs, bR_s, ga_209 (by omega), n_cl (by omega), h.2.2.1 i (by omega), mI_u, nI_1]
    by_cases z : s.2 i = 32
    · rw [if_pos (by rw [z]; rfl)]
      exact nx (Or.inr z)
    · rw [if_neg (by rw [show (32 : Int32) = nI 32 from rfl, n_eq (by omega) (by omega)]; exact z), bR_s, ga_209 (by omega), h.2.2.1 i (by omega)]
      by_cases y : s.2 i = 10
      · rw [if_neg (by rw [y]; exact fun q => q rfl)]
        exact nx (Or.inl y)
      · rw [if_pos (by rw [show (10 : Int32) = nI 10 from rfl, n_eq (by omega) (by omega)]; exact y)]
        exact ⟨m, Fr.rfl', rfl, by rw [skN (fun q => by have := blk_i.mp q.2; omega)]; exact h4⟩
theorem Mo_sa_s (d : Nat) {s : eTp} {m : eM} (hs : Sk m) (h : TzM s m) {i : Nat} (hi : i ≤ 1000) : Mo_signAt d 208 (nI i) m = yI (nI (if i < s.1 then s.2 i else 0)) m := by
  have ht := h.2.1
  rw [Mo_signAt_e _ _ _ _ kd_208, h.1]
  by_cases z : i < s.1
  · rw [if_neg (by rw [n_le (by omega) (by omega)]; omega), rf_208_2 hs, bR_s, ga_209 (by omega), n_cl (by omega), h.2.2.1 i z, if_pos z]
  · rw [if_pos (by rw [n_le (by omega) (by omega)]; omega), if_neg z]; rfl
theorem lN_w27 {a c : Nat} (hc : 96 ≤ c) (hc2 : c < 128) : lN a * (27 : Int64) + (nI c).toInt64 - (96 : Int64) = lN (a * 27 + (c - 96)) := by
  have e : nJ (a * 27 + c) - nJ 96 = nJ (a * 27 + c - 96) := (Int64.ofNat_sub (a * 27 + c) 96 (by omega)).symm
  rw [nI_J (by omega), show lN a = nJ a from rfl, show (27 : Int64) = nJ 27 from rfl, show (96 : Int64) = nJ 96 from rfl, nJ_mul, nJ_add, e, show a * 27 + c - 96 = a * 27 + (c - 96) by omega]
  rfl
theorem wf_s (B o : Nat) (s : eTp) (k i a : Nat) : wf B o s (k + 1) i a = wf B o s k (i + 1) (a * B + (s.2 i - o)) := rfl
/-- the letters of a word -/
theorem Mo_nw_s (d : Nat) {s : eTp} {B : Nat} (x1 : Int32) : ∀ k i a m, k = s.1 - i → B ≤ i → i ≤ s.1 → Sk m → TzM s m → gI m 208 4 = nI i → gI m 208 5 = nI B → (i - B ≤ 8 → gL m 208 7 = lN a) → ∃ m', Fr sTm m m' ∧ Mo_nextToken_109 (d + 1) 208 x1 m = Mo_nextToken_188 (d + 1) 208 x1 m' ∧ gI m' 208 4 = nI (sk_ s (ltr s) i) ∧ gI m' 208 5 = nI B ∧ (sk_ s (ltr s) i - B ≤ 8 → gL m' 208 7 = lN (wf 27 96 s (sk_ s (ltr s) i - i) i a))
  | 0, i, a, m, e, hB, hi, hs, h, h4, h5, h7 => by
    have ht := h.2.1
    have hk : sk_ s (ltr s) i = i := skN (fun q => by omega)
    refine ⟨m, Fr.rfl', ?_, by rw [hk]; exact h4, h5, fun q => by rw [hk, Nat.sub_self]; exact h7 (by rw [hk] at q; exact q)⟩
    rw [Mo_nextToken_109_e _ _ _ _ kd_208, h4, Mo_sa_s d hs h (by omega), bI_y, if_neg (show ¬ i < s.1 by omega), if_pos (by decide)]
  | k + 1, i, a, m, e, hB, hi, hs, h, h4, h5, h7 => by
    have ht := h.2.1
    have hlt : i < s.1 := by omega
    have hc := h.2.2.2 i hlt
    rw [Mo_nextToken_109_e _ _ _ _ kd_208, h4, Mo_sa_s d hs h (by omega), bI_y, if_pos hlt]
    by_cases z : s.2 i < 97
    · have hk : sk_ s (ltr s) i = i := skN (fun q => by have := ltr_i.mp q.2; omega)
      rw [if_pos (by rw [show (97 : Int32) = nI 97 from rfl, n_lt (by omega) (by omega)]; exact z), hk]
      exact ⟨m, Fr.rfl', rfl, h4, h5, fun q => by rw [Nat.sub_self]; exact h7 q⟩
    · rw [if_neg (by rw [show (97 : Int32) = nI 97 from rfl, n_lt (by omega) (by omega)]; exact z), h4, Mo_sa_s d hs h (by omega), bI_y, if_pos hlt]
      by_cases y : 122 < s.2 i
      · have hk : sk_ s (ltr s) i = i := skN (fun q => by have := ltr_i.mp q.2; omega)
        rw [if_pos (by rw [show (122 : Int32) = nI 122 from rfl, n_lt (by omega) (by omega)]; exact y), hk]
        exact ⟨m, Fr.rfl', rfl, h4, h5, fun q => by rw [Nat.sub_self]; exact h7 q⟩
      · have hl : ltr s i = true := ltr_i.mpr ⟨by omega, by omega⟩
        have hE := sk_le s (ltr s) (i + 1)
        rw [if_neg (by rw [show (122 : Int32) = nI 122 from rfl, n_lt (by omega) (by omega)]; exact y), h4, h5, nI_sb (by omega), skY hlt hl]
        by_cases x : 8 ≤ i - B
        · rw [if_pos (by rw [show (8 : Int32) = nI 8 from rfl, n_le (by omega) (by omega)]; exact x), mI_u, nI_1]
          have f1 : Fr sTm m (sI m 208 4 (nI (i + 1))) := Fr.rfl'.i rfl
          obtain ⟨m', f2, e2, g4, g5, -⟩ := Mo_nw_s d x1 k (i + 1) a (sI m 208 4 (nI (i + 1))) (by omega) (by omega) (by omega) hs (h.st f1) (gI_w _ _ _ _) h5 (fun q => by omega)
          exact ⟨m', f1.tr f2, e2, g4, g5, fun q => by omega⟩
        · rw [if_neg (by rw [show (8 : Int32) = nI 8 from rfl, n_le (by omega) (by omega)]; exact x), Mo_sa_s d hs h (by omega), bI_y, if_pos hlt, mJ_u, h7 (by omega), lN_w27 (by omega) hc, mI_u]
          show ∃ m', Fr sTm m m' ∧ Mo_nextToken_109 (d + 1) 208 x1 (sI (sL m 208 7 (lN (a * 27 + (s.2 i - 96)))) 208 4 (gI m 208 4 + 1)) = _ ∧ _
          rw [h4, nI_1]
          have f1 : Fr sTm m (sI (sL m 208 7 (lN (a * 27 + (s.2 i - 96)))) 208 4 (nI (i + 1))) := (Fr.rfl'.l rfl).i rfl
          obtain ⟨m', f2, e2, g4, g5, g7⟩ := Mo_nw_s d x1 k (i + 1) (a * 27 + (s.2 i - 96)) (sI (sL m 208 7 (lN (a * 27 + (s.2 i - 96)))) 208 4 (nI (i + 1))) (by omega) (by omega) (by omega) (f1.sk hs) (h.st f1) (gI_w _ _ _ _) h5 (fun q => gL_w _ _ _ _)
          refine ⟨m', f1.tr f2, e2, g4, g5, fun q => ?_⟩
          rw [g7 q, show sk_ s (ltr s) (i + 1) - i = sk_ s (ltr s) (i + 1) - (i + 1) + 1 by omega]
          rfl
/-- the digits of a number -/
theorem Mo_nn_s (d : Nat) {s : eTp} {B : Nat} (x1 : Int32) : ∀ k i a m, k = s.1 - i → B ≤ i → i ≤ s.1 → Sk m → TzM s m → gI m 208 4 = nI i → gI m 208 5 = nI B → (i - B ≤ 4 → gI m 208 8 = nI a) → ∃ m', Fr sTm m m' ∧ Mo_nextToken_224 (d + 1) 208 x1 m = Mo_nextToken_299 (d + 1) 208 x1 m' ∧ gI m' 208 4 = nI (sk_ s (dig s) i) ∧ gI m' 208 5 = nI B ∧ (sk_ s (dig s) i - B ≤ 4 → gI m' 208 8 = nI (wf 10 48 s (sk_ s (dig s) i - i) i a))
  | 0, i, a, m, e, hB, hi, hs, h, h4, h5, h7 => by
    have ht := h.2.1
    have hk : sk_ s (dig s) i = i := skN (fun q => by omega)
    refine ⟨m, Fr.rfl', ?_, by rw [hk]; exact h4, h5, fun q => by rw [hk, Nat.sub_self]; exact h7 (by rw [hk] at q; exact q)⟩
    rw [Mo_nextToken_224_e _ _ _ _ kd_208, h4, Mo_sa_s d hs h (by omega), bI_y, if_neg (show ¬ i < s.1 by omega), if_pos (by decide)]
  | k + 1, i, a, m, e, hB, hi, hs, h, h4, h5, h7 => by
    have ht := h.2.1
    have hlt : i < s.1 := by omega
    have hc := h.2.2.2 i hlt
    rw [Mo_nextToken_224_e _ _ _ _ kd_208, h4, Mo_sa_s d hs h (by omega), bI_y, if_pos hlt]
    by_cases z : s.2 i < 48
    · have hk : sk_ s (dig s) i = i := skN (fun q => by have := dig_i.mp q.2; omega)
      rw [if_pos (by rw [show (48 : Int32) = nI 48 from rfl, n_lt (by omega) (by omega)]; exact z), hk]
      exact ⟨m, Fr.rfl', rfl, h4, h5, fun q => by rw [Nat.sub_self]; exact h7 q⟩
    · rw [if_neg (by rw [show (48 : Int32) = nI 48 from rfl, n_lt (by omega) (by omega)]; exact z), h4, Mo_sa_s d hs h (by omega), bI_y, if_pos hlt]
      by_cases y : 57 < s.2 i
      · have hk : sk_ s (dig s) i = i := skN (fun q => by have := dig_i.mp q.2; omega)
        rw [if_pos (by rw [show (57 : Int32) = nI 57 from rfl, n_lt (by omega) (by omega)]; exact y), hk]
        exact ⟨m, Fr.rfl', rfl, h4, h5, fun q => by rw [Nat.sub_self]; exact h7 q⟩
      · have hl : dig s i = true := dig_i.mpr ⟨by omega, by omega⟩
        have hE := sk_le s (dig s) (i + 1)
        rw [if_neg (by rw [show (57 : Int32) = nI 57 from rfl, n_lt (by omega) (by omega)]; exact y), h4, h5, nI_sb (by omega), skY hlt hl]
        by_cases x : 4 ≤ i - B
        · rw [if_pos (by rw [show (4 : Int32) = nI 4 from rfl, n_le (by omega) (by omega)]; exact x), mI_u, nI_1]
          have f1 : Fr sTm m (sI m 208 4 (nI (i + 1))) := Fr.rfl'.i rfl
          obtain ⟨m', f2, e2, g4, g5, -⟩ := Mo_nn_s d x1 k (i + 1) a (sI m 208 4 (nI (i + 1))) (by omega) (by omega) (by omega) hs (h.st f1) (gI_w _ _ _ _) h5 (fun q => by omega)
          exact ⟨m', f1.tr f2, e2, g4, g5, fun q => by omega⟩
        · rw [if_neg (by rw [show (4 : Int32) = nI 4 from rfl, n_le (by omega) (by omega)]; exact x), Mo_sa_s d hs h (by omega), bI_y, if_pos hlt, mI_u, h7 (by omega), show (10 : Int32) = nI 10 from rfl, nI_mul, nI_add, show (48 : Int32) = nI 48 from rfl, nI_sb (by omega), show a * 10 + s.2 i - 48 = a * 10 + (s.2 i - 48) by omega, mI_u]
          show ∃ m', Fr sTm m m' ∧ Mo_nextToken_224 (d + 1) 208 x1 (sI (sI m 208 8 (nI (a * 10 + (s.2 i - 48)))) 208 4 (gI m 208 4 + 1)) = _ ∧ _
          rw [h4, nI_1]
          have f1 : Fr sTm m (sI (sI m 208 8 (nI (a * 10 + (s.2 i - 48)))) 208 4 (nI (i + 1))) := (Fr.rfl'.i rfl).i rfl
          obtain ⟨m', f2, e2, g4, g5, g7⟩ := Mo_nn_s d x1 k (i + 1) (a * 10 + (s.2 i - 48)) (sI (sI m 208 8 (nI (a * 10 + (s.2 i - 48)))) 208 4 (nI (i + 1))) (by omega) (by omega) (by omega) (f1.sk hs) (h.st f1) (gI_w _ _ _ _) h5 (fun q => rfl)
          refine ⟨m', f1.tr f2, e2, g4, g5, fun q => ?_⟩
          rw [g7 q, show sk_ s (dig s) (i + 1) - i = sk_ s (dig s) (i + 1) - (i + 1) + 1 by omega]
          rfl
/-- a sign that the language has -/
def sgn (c : Nat) : Bool := (decide (40 ≤ c) && decide (c ≤ 43)) || (decide (c = 45) || (decide (59 ≤ c) && decide (c ≤ 61)))
/-- the reference's kind of a token -/
def mK (s : eTp) (b : Nat) : Nat := if tK s b = 4 then (if sgn (tS s b) = true then 3 else 4) else if tK s b = 1 then 4 else tK s b - 1
def TkM (s : eTp) (b : Nat) (m : eM) : Prop := gI m 208 5 = nI (tB s b) ∧ gI m 208 6 = nI (mK s b) ∧ gI m 208 4 = nI (tX s b) ∧ (tK s b = 2 → gL m 208 7 = lN (tW s b)) ∧ (tK s b = 3 → gI m 208 8 = nI (tN s b))
theorem TkM.fr {s : eTp} {b : Nat} {m m' : eM} {S : Nat → Nat → Bool} (h : TkM s b m) (f : Fr S m m') (hS : ∀ j, 4 ≤ j → j ≤ 8 → S 208 j = false) : TkM s b m' := by
  obtain ⟨h1, h2, h3, h4, h5⟩ := h
  exact ⟨(f.1 _ _ (hS 5 (by decide) (by decide))).trans h1, (f.1 _ _ (hS 6 (by decide) (by decide))).trans h2, (f.1 _ _ (hS 4 (by decide) (by decide))).trans h3, fun q => (f.2.1 _ _ (hS 7 (by decide) (by decide))).trans (h4 q), fun q => (f.1 _ _ (hS 8 (by decide) (by decide))).trans (h5 q)⟩
theorem Mo_nt_322_s (d : Nat) {m : eM} {c B : Nat} (hc : c < 128) (h4 : gI m 208 4 = nI B) : Mo_nextToken_322 (d + 1) 208 (nI c) m = yV (sI (sI m 208 4 (nI (B + 1))) 208 6 (nI (if sgn c = true then 3 else 4))) := by
  rw [Mo_nextToken_322_e _ _ _ _ kd_208, mI_u, h4, nI_1, Mo_nextToken_345_e _ _ _ _ _ kd_208 kd_208, mI_u, mI_u]
  have key : ∀ b : Bool, sgn c = b → ∀ o, (o = yV (sI (sI m 208 4 (nI (B + 1))) 208 6 (nI (if b = true then 3 else 4)))) → o = yV (sI (sI m 208 4 (nI (B + 1))) 208 6 (nI (if sgn c = true then 3 else 4))) := fun b hb o q => by rw [hb]; exact q
  have hs : sgn c = true ↔ (40 ≤ c ∧ c ≤ 43) ∨ c = 45 ∨ 59 ≤ c ∧ c ≤ 61 := by unfold sgn; simp
  by_cases z1 : c < 40
  · rw [if_pos (by rw [show (40 : Int32) = nI 40 from rfl, n_lt (by omega) (by omega)]; exact z1), if_neg (by rw [show (45 : Int32) = nI 45 from rfl, n_eq (by omega) (by omega)]; omega), if_pos (by rw [show (59 : Int32) = nI 59 from rfl, n_lt (by omega) (by omega)]; omega)]
    exact key false (Bool.eq_false_iff.mpr fun q => by have := hs.mp q; omega) _ rfl
  · rw [if_neg (by rw [show (40 : Int32) = nI 40 from rfl, n_lt (by omega) (by omega)]; exact z1)]
    by_cases z2 : c ≤ 43
    · rw [if_pos (by rw [show (43 : Int32) = nI 43 from rfl, n_le (by omega) (by omega)]; exact z2)]
      exact key true (hs.mpr (by omega)) _ rfl
    · rw [if_neg (by rw [show (43 : Int32) = nI 43 from rfl, n_le (by omega) (by omega)]; exact z2)]
      by_cases z3 : c = 45
      · rw [if_pos (by rw [z3]; rfl)]
        exact key true (hs.mpr (by omega)) _ rfl
      · rw [if_neg (by rw [show (45 : Int32) = nI 45 from rfl, n_eq (by omega) (by omega)]; omega)]
        by_cases z4 : c < 59
        · rw [if_pos (by rw [show (59 : Int32) = nI 59 from rfl, n_lt (by omega) (by omega)]; omega)]
          exact key false (Bool.eq_false_iff.mpr fun q => by have := hs.mp q; omega) _ rfl
        · rw [if_neg (by rw [show (59 : Int32) = nI 59 from rfl, n_lt (by omega) (by omega)]; omega)]
          by_cases z5 : 61 < c
          · rw [if_pos (by rw [show (61 : Int32) = nI 61 from rfl, n_lt (by omega) (by omega)]; omega)]
            exact key false (Bool.eq_false_iff.mpr fun q => by have := hs.mp q; omega) _ rfl
          · rw [if_neg (by rw [show (61 : Int32) = nI 61 from rfl, n_lt (by omega) (by omega)]; omega)]
            exact key true (hs.mpr (by omega)) _ rfl
theorem Mo_nt_s {D : Nat} (hD : 1 ≤ D) {s : eTp} {b : Nat} (hb : b ≤ s.1) {m : eM} (hs : Sk m) (h : TzM s m) (h4 : gI m 208 4 = nI b) : ∃ m', Fr sTm m m' ∧ Mo_nextToken D 208 m = yV m' ∧ TkM s b m' := by
  obtain ⟨d, rfl⟩ : ∃ d, D = d + 1 := ⟨D - 1, by omega⟩
  have ht := h.2.1
  obtain ⟨b1, b2⟩ := tB_le hb
  obtain ⟨m1, f1, e1, g4⟩ := Mo_bb_s d _ b m rfl hb hs h h4
  have g4 : gI m1 208 4 = nI (tB s b) := g4
  have hs1 := f1.sk hs
  obtain ⟨m3, hm3⟩ : ∃ m3, m3 = sI (sL (sI m1 208 5 (nI (tB s b))) 208 7 0) 208 8 0 := ⟨_, rfl⟩
  have f3 : Fr sTm m m3 := by rw [hm3]; exact ((f1.i rfl).l rfl).i rfl
  have hs3 := f3.sk hs
  have h3 := h.st f3
  have q4 : gI m3 208 4 = nI (tB s b) := by rw [hm3]; exact g4
  have q5 : gI m3 208 5 = nI (tB s b) := by rw [hm3]; rfl
  have q7 : gL m3 208 7 = lN 0 := by rw [hm3]; rfl
  have q8 : gI m3 208 8 = nI 0 := by rw [hm3]; rfl
  rw [e1, Mo_nextToken_52_e _ _ _ kd_208, g4, mI_u, mJ_u, mI_u, ← hm3, q4, h3.1]
  by_cases z : tB s b < s.1
  · have hc := h.2.2.2 (tB s b) z
    have zn : ¬ s.1 ≤ tB s b := by omega
    rw [if_pos (by rw [n_eq (by omega) (by omega)]; omega), rf_208_2 hs3, bR_s, ga_209 (by omega), n_cl (by omega), h3.2.2.1 _ z]
    have sg : ltr s (tB s b) ≠ true → dig s (tB s b) ≠ true → ∃ m', Fr sTm m m' ∧ Mo_nextToken_322 (d + 1) 208 (nI (s.2 (tB s b))) m3 = yV m' ∧ TkM s b m' := fun y x => by
      have hX : tX s b = tB s b + 1 := by unfold tX; rw [if_neg zn, if_neg y, if_neg x]
      have hK : tK s b = 4 := by unfold tK; rw [if_neg zn, if_neg y, if_neg x]
      rw [Mo_nt_322_s d hc q4]
      refine ⟨_, (f3.i rfl).i rfl, rfl, ?_, ?_, ?_, fun q => by omega, fun q => by omega⟩
      · rw [gI_sI, if_neg (by omega), gI_sI, if_neg (by omega), q5]
      · rw [gI_w]; unfold mK; rw [if_pos hK]; rfl
      · rw [gI_sI, if_neg (by omega), gI_w, hX]
    by_cases y : ltr s (tB s b) = true
    · have hl := ltr_i.mp y
      have hX : tX s b = tE s b := by unfold tX; rw [if_neg zn, if_pos y]
      have hK : tK s b = if tE s b - tB s b ≤ 8 then 2 else 1 := by unfold tK; rw [if_neg zn, if_pos y]
      have hE := sk_le s (ltr s) (tB s b)
      have hE2 := sk_t (s := s) (p := ltr s) b2
      rw [if_neg (by rw [show (97 : Int32) = nI 97 from rfl, n_lt (by omega) (by omega)]; omega), if_neg (by rw [show (122 : Int32) = nI 122 from rfl, n_lt (by omega) (by omega)]; omega)]
      obtain ⟨m4, f4, e4, r4, r5, r7⟩ := Mo_nw_s d (s := s) (B := tB s b) (nI (s.2 (tB s b))) _ (tB s b) 0 m3 rfl (Nat.le_refl _) b2 hs3 h3 q4 q5 (fun _ => q7)
      have r4 : gI m4 208 4 = nI (tE s b) := r4
      have hE : tB s b ≤ tE s b := hE
      have hE2 : tE s b ≤ s.1 := hE2
      rw [e4, Mo_nextToken_188_e _ _ _ _ kd_208, r4, r5, nI_sb hE, mI_u, mI_u]
      by_cases x : tE s b - tB s b ≤ 8
      · rw [if_pos x] at hK
        rw [if_pos (by rw [show (8 : Int32) = nI 8 from rfl, n_le (by omega) (by omega)]; exact x)]
        refine ⟨_, (f3.tr f4).i rfl, rfl, ?_, ?_, ?_, fun q => r7 x, fun q => by omega⟩
        · rw [gI_sI, if_neg (by omega), r5]
        · rw [gI_w]; unfold mK; rw [hK]; rfl
        · rw [gI_sI, if_neg (by omega), r4, hX]
      · rw [if_neg x] at hK
        rw [if_neg (by rw [show (8 : Int32) = nI 8 from rfl, n_le (by omega) (by omega)]; exact x)]
        refine ⟨_, (f3.tr f4).i rfl, rfl, ?_, ?_, ?_, fun q => by omega, fun q => by omega⟩
        · rw [gI_sI, if_neg (by omega), r5]
        · rw [gI_w]; unfold mK; rw [hK]; rfl
        · rw [gI_sI, if_neg (by omega), r4, hX]
    · by_cases x : dig s (tB s b) = true
      · have hl := dig_i.mp x
        have hX : tX s b = tD s b := by unfold tX; rw [if_neg zn, if_neg y, if_pos x]
        have hK : tK s b = if tD s b - tB s b ≤ 4 then 3 else 1 := by unfold tK; rw [if_neg zn, if_neg y, if_pos x]
        have hE := sk_le s (dig s) (tB s b)
        have hE2 := sk_t (s := s) (p := dig s) b2
        rw [if_pos (by rw [show (97 : Int32) = nI 97 from rfl, n_lt (by omega) (by omega)]; omega), if_neg (by rw [show (48 : Int32) = nI 48 from rfl, n_lt (by omega) (by omega)]; omega), if_neg (by rw [show (57 : Int32) = nI 57 from rfl, n_lt (by omega) (by omega)]; omega)]
        obtain ⟨m4, f4, e4, r4, r5, r7⟩ := Mo_nn_s d (s := s) (B := tB s b) (nI (s.2 (tB s b))) _ (tB s b) 0 m3 rfl (Nat.le_refl _) b2 hs3 h3 q4 q5 (fun _ => q8)
        have r4 : gI m4 208 4 = nI (tD s b) := r4
        have hE : tB s b ≤ tD s b := hE
        have hE2 : tD s b ≤ s.1 := hE2
        rw [e4, Mo_nextToken_299_e _ _ _ _ kd_208, r4, r5, nI_sb hE, mI_u, mI_u]
        by_cases w : tD s b - tB s b ≤ 4
        · rw [if_pos w] at hK
          rw [if_pos (by rw [show (4 : Int32) = nI 4 from rfl, n_le (by omega) (by omega)]; exact w)]
          refine ⟨_, (f3.tr f4).i rfl, rfl, ?_, ?_, ?_, fun q => by omega, fun q => ?_⟩
          · rw [gI_sI, if_neg (by omega), r5]
          · rw [gI_w]; unfold mK; rw [hK]; rfl
          · rw [gI_sI, if_neg (by omega), r4, hX]
          · rw [gI_sI, if_neg (by omega)]; exact r7 w
        · rw [if_neg w] at hK
          rw [if_neg (by rw [show (4 : Int32) = nI 4 from rfl, n_le (by omega) (by omega)]; exact w)]
          refine ⟨_, (f3.tr f4).i rfl, rfl, ?_, ?_, ?_, fun q => by omega, fun q => by omega⟩
          · rw [gI_sI, if_neg (by omega), r5]
          · rw [gI_w]; unfold mK; rw [hK]; rfl
          · rw [gI_sI, if_neg (by omega), r4, hX]
      · have sg := sg y x
        by_cases w1 : s.2 (tB s b) < 97
        · rw [if_pos (by rw [show (97 : Int32) = nI 97 from rfl, n_lt (by omega) (by omega)]; exact w1)]
          by_cases w2 : s.2 (tB s b) < 48
          · rw [if_pos (by rw [show (48 : Int32) = nI 48 from rfl, n_lt (by omega) (by omega)]; exact w2)]
            exact sg
          · rw [if_neg (by rw [show (48 : Int32) = nI 48 from rfl, n_lt (by omega) (by omega)]; exact w2), if_pos (by rw [show (57 : Int32) = nI 57 from rfl, n_lt (by omega) (by omega)]; have : ¬ (48 ≤ s.2 (tB s b) ∧ s.2 (tB s b) ≤ 57) := fun q => x (dig_i.mpr q); omega)]
            exact sg
        · rw [if_neg (by rw [show (97 : Int32) = nI 97 from rfl, n_lt (by omega) (by omega)]; exact w1), if_pos (by rw [show (122 : Int32) = nI 122 from rfl, n_lt (by omega) (by omega)]; have : ¬ (97 ≤ s.2 (tB s b) ∧ s.2 (tB s b) ≤ 122) := fun q => y (ltr_i.mpr q); omega), if_neg (by rw [show (48 : Int32) = nI 48 from rfl, n_lt (by omega) (by omega)]; omega), if_pos (by rw [show (57 : Int32) = nI 57 from rfl, n_lt (by omega) (by omega)]; omega)]
          exact sg
  · have hX : tX s b = tB s b := by unfold tX; rw [if_pos (by omega)]
    have hK : tK s b = 0 := by unfold tK; rw [if_pos (by omega)]
    rw [if_neg (by rw [show tB s b = s.1 by omega]; exact fun q => q rfl), mI_u]
    refine ⟨_, f3.i rfl, rfl, ?_, ?_, ?_, fun q => by omega, fun q => by omega⟩
    · rw [gI_sI, if_neg (by omega), q5]
    · rw [gI_w]; unfold mK; rw [hK]; rfl
    · rw [gI_sI, if_neg (by omega), q4, hX]
