/-! ===== questions about the token ===== -/
def kwN (j : Nat) : Nat := [118928, 47328224, 8740067, 847478194, 232608281, 47, 6132988, 51284111, 70076, 8798, 237470, 10631, 1111, 423].getD j 0
def kwF (n : Nat) : Nat → Nat → Bool
  | 0, _ => false
  | k + 1, j => decide (kwN j = n) || kwF n k (j + 1)
/-- a word that is no NAME -/
def isKw (n : Nat) : Bool := kwF n 14 0
def tkN (s : eTp) (b : Nat) : Bool := decide (tK s b = 2) && !isKw (tW s b)
def tkW (s : eTp) (b n : Nat) : Bool := decide (tK s b = 2) && decide (tW s b = n)
def tkS (s : eTp) (b c : Nat) : Bool := decide (tK s b = 4) && decide (tS s b = c)
/-- the FAULT k at a token -/
def er (s : eTp) (b k : Nat) : Nat := k + 16 * tB s b
theorem tkW_k {s : eTp} {b n : Nat} (h : tkW s b n = true) : tK s b = 2 ∧ tW s b = n := by
  unfold tkW at h
  rw [Bool.and_eq_true, decide_eq_true_iff, decide_eq_true_iff] at h
  exact h
theorem tkS_k {s : eTp} {b n : Nat} (h : tkS s b n = true) : tK s b = 4 ∧ tS s b = n := by
  unfold tkS at h
  rw [Bool.and_eq_true, decide_eq_true_iff, decide_eq_true_iff] at h
  exact h
theorem tkN_k {s : eTp} {b : Nat} (h : tkN s b = true) : tK s b = 2 ∧ isKw (tW s b) = false := by
  unfold tkN at h
  rw [Bool.and_eq_true, decide_eq_true_iff, Bool.not_eq_true'] at h
  exact h
theorem tkW_n {s : eTp} {b n : Nat} (hn : isKw n = true) (h : tkW s b n = true) : tkN s b = false := by
  obtain ⟨h1, h2⟩ := tkW_k h
  unfold tkN
  rw [h2, hn]
  simp
theorem tK_le (s : eTp) (b : Nat) : tK s b ≤ 4 := by
  unfold tK
  split
  · omega
  · split
    · split <;> omega
    · split
      · split <;> omega
      · omega
theorem mK_1 {s : eTp} {b : Nat} : mK s b = 1 ↔ tK s b = 2 := by
  have := tK_le s b
  unfold mK
  split
  · split <;> omega
  · split <;> omega
theorem mK_2 {s : eTp} {b : Nat} : mK s b = 2 ↔ tK s b = 3 := by
  have := tK_le s b
  unfold mK
  split
  · split <;> omega
  · split <;> omega
theorem mK_0 {s : eTp} {b : Nat} : mK s b = 0 ↔ tK s b = 0 := by
  have := tK_le s b
  unfold mK
  split
  · split <;> omega
  · split <;> omega
theorem mK_3 {s : eTp} {b : Nat} : mK s b = 3 ↔ tK s b = 4 ∧ sgn (tS s b) = true := by
  have := tK_le s b
  unfold mK
  split
  · split
    · rename_i h1 h2; exact ⟨fun _ => ⟨h1, h2⟩, fun _ => rfl⟩
    · rename_i h1 h2; exact ⟨fun q => by omega, fun q => absurd q.2 h2⟩
  · split
    · exact ⟨fun q => by omega, fun q => by omega⟩
    · exact ⟨fun q => by omega, fun q => by omega⟩
theorem mK_lt (s : eTp) (b : Nat) : mK s b < 2147483648 := by
  have := tK_le s b
  unfold mK
  split
  · split <;> omega
  · split <;> omega
theorem tW_lt {s : eTp} {b : Nat} (h : tK s b = 2) : tW s b < 27 ^ 8 := (tW_w8 h).2
theorem tS_lt {s : eTp} {b : Nat} (h : ∀ i, i < s.1 → s.2 i < 128) (hk : tK s b ≠ 0) : tS s b < 128 := h _ (tX_lt hk).2
theorem bb_ite (c : Prop) [Decidable c] (m : eM) : (if c then yI 1 m else yI 0 m) = yI (bb (decide c)) m := by
  by_cases h : c
  · rw [if_pos h, decide_eq_true h]; rfl
  · rw [if_neg h, decide_eq_false h]; rfl
/-! the class -/
theorem Ta_kind_s {s : eTp} {b : Nat} {m : eM} (h : TkA s b m) (d : Nat) : Ta_kind d 4 m = yI (nI (tK s b)) m := by rw [Ta_kind_e _ _ _ kd_4, h.2.1]
theorem Ta_isWord_s {s : eTp} {b : Nat} {m : eM} (h : TkA s b m) {n : Nat} (hn : n < 27 ^ 8) (d : Nat) : Ta_isWord d 4 (nm8 n) m = yI (bb (tkW s b n)) m := by
  have hk := tK_le s b
  rw [Ta_isWord_e _ _ _ _ kd_4, h.2.1]
  unfold tkW
  by_cases z : tK s b = 2
  · rw [if_neg (by rw [z]; exact fun q => q rfl), h.2.2.2.1 z, decide_eq_true z, Bool.true_and]
    by_cases y : tW s b = n
    · rw [if_neg (fun q => q ((cmp0 _ _).mpr (by rw [y]))), decide_eq_true y]; rfl
    · rw [if_pos (fun q => y ((nm8_i (tW_lt z) hn).mp ((cmp0 _ _).mp q))), decide_eq_false y]; rfl
  · rw [if_pos (by rw [show (2 : Int32) = nI 2 from rfl, n_eq (by omega) (by omega)]; exact z), decide_eq_false z]; rfl
theorem Ta_isSign_s {s : eTp} {b : Nat} {m : eM} (ht : ∀ i, i < s.1 → s.2 i < 128) (h : TkA s b m) {c : Nat} (hc : c < 128) (d : Nat) : Ta_isSign d 4 (nI c) m = yI (bb (tkS s b c)) m := by
  have hk := tK_le s b
  rw [Ta_isSign_e _ _ _ _ kd_4, h.2.1]
  unfold tkS
  by_cases z : tK s b = 4
  · have := tS_lt ht (show tK s b ≠ 0 by omega)
    rw [if_neg (by rw [z]; exact fun q => q rfl), h.2.2.2.2.2 z, decide_eq_true z, Bool.true_and]
    by_cases y : tS s b = c
    · rw [if_neg (by rw [y]; exact fun q => q rfl), decide_eq_true y]; rfl
    · rw [if_pos (by rw [n_eq (by omega) (by omega)]; exact y), decide_eq_false y]; rfl
  · rw [if_pos (by rw [show (4 : Int32) = nI 4 from rfl, n_eq (by omega) (by omega)]; exact z), decide_eq_false z]; rfl
theorem eTK_8 : ∀ j, j < 14 → eTK j = nm8 (kwN j) ∧ kwN j < 27 ^ 8 := by decide +kernel
theorem Ta_isName_19_s {s : eTp} {b : Nat} {m : eM} (hS : Ss m) (h : TkA s b m) (hk : tK s b = 2) (d : Nat) : ∀ k j w, j + k = 14 → Ta_isName_19 d 4 2 (nI 14) (nI j) w m = yI (bb (!kwF (tW s b) k j)) m
  | 0, j, w, e => by
    rw [Ta_isName_19_e _ _ _ _ _ _ _ kd_4, if_pos (by rw [n_le (by omega) (by omega)]; omega)]; rfl
  | k + 1, j, w, e => by
    obtain ⟨e1, e2⟩ := eTK_8 j (by omega)
    rw [Ta_isName_19_e _ _ _ _ _ _ _ kd_4, if_neg (by rw [n_le (by omega) (by omega)]; omega), ga_2 (by omega), n_cl (by omega), hS.2 j (by omega), h.2.2.2.1 hk, e1, nI_1]
    show _ = yI (bb (!(decide (kwN j = tW s b) || kwF (tW s b) k (j + 1)))) m
    by_cases y : kwN j = tW s b
    · rw [if_neg (fun q => q ((cmp0 _ _).mpr (by rw [y]))), decide_eq_true y]; rfl
    · rw [if_pos (fun q => y ((nm8_i (tW_lt hk) e2).mp ((cmp0 _ _).mp q)).symm), decide_eq_false y, Ta_isName_19_s hS h hk d k (j + 1) _ (by omega)]; rfl
theorem Ta_isName_s {s : eTp} {b : Nat} {m : eM} (hS : Ss m) (h : TkA s b m) (d : Nat) : Ta_isName d 4 m = yI (bb (tkN s b)) m := by
  have hk := tK_le s b
  rw [Ta_isName_e _ _ _ kd_4, h.2.1]
  unfold tkN
  by_cases z : tK s b = 2
  · rw [if_pos (by rw [z]; rfl), gl_2, al_2, toI, decide_eq_true z, Bool.true_and]
    exact Ta_isName_19_s hS h z d 14 0 eU rfl
  · rw [if_neg (by rw [show (2 : Int32) = nI 2 from rfl, n_eq (by omega) (by omega)]; exact z), decide_eq_false z]; rfl
theorem Ta_word_s {s : eTp} {b : Nat} {m : eM} (h : TkA s b m) (hk : tK s b = 2) (d : Nat) : Ta_word d 4 m = yL (nm8 (tW s b)) m := by rw [Ta_word_e _ _ _ kd_4, h.2.2.2.1 hk]
theorem Ta_number_s {s : eTp} {b : Nat} {m : eM} (h : TkA s b m) (hk : tK s b = 3) (d : Nat) : Ta_number d 4 m = yI (nI (tN s b)) m := by rw [Ta_number_e _ _ _ kd_4, h.2.2.2.2.1 hk]
theorem Ta_wrong_s {s : eTp} {b : Nat} {m : eM} (h : TkA s b m) (h8 : gI m 4 8 = 0) (k d : Nat) : Ta_wrong d 4 (nI k) m = yI 0 (sI m 4 8 (nI (er s b k))) := by
  rw [Ta_wrong_e _ _ _ _ kd_4, h8, if_neg (fun q => q rfl), mI_u, h.1, show (16 : Int32) = nI 16 from rfl, nI_mul, nI_add]
  rfl
/-! the reference -/
theorem Mo_isWord_s {s : eTp} {b : Nat} {m : eM} (h : TkM s b m) {n : Nat} (hn : n < 27 ^ 8) (d : Nat) : Mo_isWord d 208 (lN n) m = yI (bb (tkW s b n)) m := by
  have hk := mK_lt s b
  rw [Mo_isWord_e _ _ _ _ kd_208, h.2.1]
  unfold tkW
  by_cases z : tK s b = 2
  · rw [if_neg (by rw [mK_1.mpr z]; exact fun q => q rfl), h.2.2.2.1 z, decide_eq_true z, Bool.true_and]
    by_cases y : tW s b = n
    · rw [if_neg (fun q => q ((cmp0 _ _).mpr (by rw [y]))), decide_eq_true y]; rfl
    · rw [if_pos (fun q => y ((lN_i27 (tW_lt z) hn).mp ((cmp0 _ _).mp q))), decide_eq_false y]; rfl
  · rw [if_pos (by rw [show (1 : Int32) = nI 1 from rfl, n_eq (by omega) (by omega)]; exact fun q => z (mK_1.mp q)), decide_eq_false z]; rfl
theorem Mo_isSign_s {s : eTp} {b : Nat} {m : eM} (hs : Sk m) (ht : TzM s m) (h : TkM s b m) {c : Nat} (hc : c < 128) (hg : sgn c = true) (d : Nat) : Mo_isSign d 208 (nI c) m = yI (bb (tkS s b c)) m := by
  have hk := mK_lt s b
  have h1000 := ht.2.1
  rw [Mo_isSign_e _ _ _ _ kd_208, h.2.1]
  unfold tkS
  by_cases z : tK s b = 4
  · have h1 := tS_lt ht.2.2.2 (show tK s b ≠ 0 by omega)
    have h2 := (tX_lt (show tK s b ≠ 0 by omega)).2
    rw [decide_eq_true z, Bool.true_and]
    by_cases w : sgn (tS s b) = true
    · rw [if_neg (by rw [mK_3.mpr ⟨z, w⟩]; exact fun q => q rfl), rf_208_2 hs, bR_s, h.1, ga_209 (by omega), n_cl (by omega), ht.2.2.1 _ h2]
      show (if ¬ nI (tS s b) = nI c then _ else _) = _
      by_cases y : tS s b = c
      · rw [if_neg (by rw [y]; exact fun q => q rfl), decide_eq_true y]; rfl
      · rw [if_pos (by rw [n_eq (by omega) (by omega)]; exact y), decide_eq_false y]; rfl
    · rw [if_pos (by rw [show (3 : Int32) = nI 3 from rfl, n_eq (by omega) (by omega)]; exact fun q => w (mK_3.mp q).2), decide_eq_false (fun q => w (by rw [q]; exact hg))]; rfl
  · rw [if_pos (by rw [show (3 : Int32) = nI 3 from rfl, n_eq (by omega) (by omega)]; exact fun q => z (mK_3.mp q).1), decide_eq_false z]; rfl
theorem Mo_isKept_s {s : eTp} {b : Nat} {m : eM} (h : TkM s b m) (d : Nat) : Mo_isKept d 208 m = yI (bb (!tkN s b)) m := by
  have hk := mK_lt s b
  rw [Mo_isKept_e _ _ _ kd_208, h.2.1]
  unfold tkN
  by_cases z : tK s b = 2
  · have hW := tW_lt z
    have c : ∀ n, n < 27 ^ 8 → ∀ A B : oX, (if lg_cmp (lN (tW s b)) (lN n) = 0 then A else B) = if tW s b = n then A else B := fun n hn A B => by
      by_cases y : tW s b = n
      · rw [if_pos y, if_pos ((cmp0 _ _).mpr (by rw [y]))]
      · rw [if_neg y, if_neg (fun q => y ((lN_i27 hW hn).mp ((cmp0 _ _).mp q)))]
    have c' : ∀ n, n < 27 ^ 8 → ∀ A B : oX, (if ¬ lg_cmp (lN (tW s b)) (lN n) = 0 then A else B) = if tW s b = n then B else A := fun n hn A B => by
      by_cases y : tW s b = n
      · rw [if_pos y, if_neg (fun q => q ((cmp0 _ _).mpr (by rw [y])))]
      · rw [if_neg y, if_pos (fun q => y ((lN_i27 hW hn).mp ((cmp0 _ _).mp q)))]
    rw [if_pos (by rw [mK_1.mpr z]; rfl), h.2.2.2.1 z, decide_eq_true z, Bool.true_and, Bool.not_not]
    rw [show (118928 : Int64) = lN 118928 from rfl, c 118928 (by decide)]
    rw [show (47328224 : Int64) = lN 47328224 from rfl, c 47328224 (by decide)]
    rw [show (8740067 : Int64) = lN 8740067 from rfl, c 8740067 (by decide)]
    rw [show (847478194 : Int64) = lN 847478194 from rfl, c 847478194 (by decide)]
    rw [show (232608281 : Int64) = lN 232608281 from rfl, c 232608281 (by decide)]
    rw [show (47 : Int64) = lN 47 from rfl, c 47 (by decide)]
    rw [show (6132988 : Int64) = lN 6132988 from rfl, c 6132988 (by decide)]
    rw [show (51284111 : Int64) = lN 51284111 from rfl, c 51284111 (by decide)]
    rw [show (70076 : Int64) = lN 70076 from rfl, c 70076 (by decide)]
    rw [show (8798 : Int64) = lN 8798 from rfl, c 8798 (by decide)]
    rw [show (237470 : Int64) = lN 237470 from rfl, c 237470 (by decide)]
    rw [show (10631 : Int64) = lN 10631 from rfl, c 10631 (by decide)]
    rw [show (1111 : Int64) = lN 1111 from rfl, c 1111 (by decide)]
    rw [show (423 : Int64) = lN 423 from rfl, c' 423 (by decide)]
    have hi : ∀ n, tW s b = n → isKw n = true → ∀ o : oX, o = yI 1 m → o = yI (bb (isKw (tW s b))) m := fun n q1 q2 o q3 => by rw [q1, q2]; exact q3
    by_cases y0 : tW s b = 118928
    · rw [if_pos y0]; exact hi _ y0 rfl _ rfl
    rw [if_neg y0]
    by_cases y1 : tW s b = 47328224
    · rw [if_pos y1]; exact hi _ y1 rfl _ rfl
    rw [if_neg y1]
    by_cases y2 : tW s b = 8740067
    · rw [if_pos y2]; exact hi _ y2 rfl _ rfl
    rw [if_neg y2]
    by_cases y3 : tW s b = 847478194
    · rw [if_pos y3]; exact hi _ y3 rfl _ rfl
    rw [if_neg y3]
    by_cases y4 : tW s b = 232608281
    · rw [if_pos y4]; exact hi _ y4 rfl _ rfl
    rw [if_neg y4]
    by_cases y5 : tW s b = 47
    · rw [if_pos y5]; exact hi _ y5 rfl _ rfl
    rw [if_neg y5]
    by_cases y6 : tW s b = 6132988
    · rw [if_pos y6]; exact hi _ y6 rfl _ rfl
    rw [if_neg y6]
    by_cases y7 : tW s b = 51284111
    · rw [if_pos y7]; exact hi _ y7 rfl _ rfl
    rw [if_neg y7]
    by_cases y8 : tW s b = 70076
    · rw [if_pos y8]; exact hi _ y8 rfl _ rfl
    rw [if_neg y8]
    by_cases y9 : tW s b = 8798
    · rw [if_pos y9]; exact hi _ y9 rfl _ rfl
    rw [if_neg y9]
    by_cases y10 : tW s b = 237470
    · rw [if_pos y10]; exact hi _ y10 rfl _ rfl
    rw [if_neg y10]
    by_cases y11 : tW s b = 10631
    · rw [if_pos y11]; exact hi _ y11 rfl _ rfl
    rw [if_neg y11]
    by_cases y12 : tW s b = 1111
    · rw [if_pos y12]; exact hi _ y12 rfl _ rfl
    rw [if_neg y12]
    by_cases y13 : tW s b = 423
    · rw [if_pos y13]; exact hi _ y13 rfl _ rfl
    rw [if_neg y13]
    have : isKw (tW s b) = false := by
      unfold isKw
      show ((decide (118928 = tW s b) || (decide (47328224 = tW s b) || (decide (8740067 = tW s b) || (decide (847478194 = tW s b) || (decide (232608281 = tW s b) || (decide (47 = tW s b) || (decide (6132988 = tW s b) || (decide (51284111 = tW s b) || (decide (70076 = tW s b) || (decide (8798 = tW s b) || (decide (237470 = tW s b) || (decide (10631 = tW s b) || (decide (1111 = tW s b) || (decide (423 = tW s b) || false))))))))))))))) = false
      rw [decide_eq_false (fun q => y0 q.symm), decide_eq_false (fun q => y1 q.symm), decide_eq_false (fun q => y2 q.symm), decide_eq_false (fun q => y3 q.symm), decide_eq_false (fun q => y4 q.symm), decide_eq_false (fun q => y5 q.symm), decide_eq_false (fun q => y6 q.symm), decide_eq_false (fun q => y7 q.symm), decide_eq_false (fun q => y8 q.symm), decide_eq_false (fun q => y9 q.symm), decide_eq_false (fun q => y10 q.symm), decide_eq_false (fun q => y11 q.symm), decide_eq_false (fun q => y12 q.symm), decide_eq_false (fun q => y13 q.symm)]; rfl
    rw [this]; rfl
  · rw [if_neg (by rw [show (1 : Int32) = nI 1 from rfl, n_eq (by omega) (by omega)]; exact fun q => z (mK_1.mp q)), decide_eq_false z]; rfl
theorem Mo_fails_s {s : eTp} {b : Nat} {m : eM} (h : TkM s b m) (k d : Nat) : Mo_fails d 208 (nI k) m = yI 0 (sI m 208 9 (nI (er s b k))) := by
  rw [Mo_fails_e _ _ _ _ kd_208, mI_u, h.1, show (16 : Int32) = nI 16 from rfl, nI_mul, nI_add]
  rfl
/-! names -/
def fndF (N : Nat → Nat) (w : Nat) : Nat → Nat → Option Nat
  | 0, _ => none
  | k + 1, i => if N i = w then some i else fndF N w k (i + 1)
def fnd (N : Nat → Nat) (n w : Nat) : Option Nat := fndF N w n 0
def pO (o : Option Nat) : Int32 := match o with
  | none => -1
  | some k => nI k
theorem fndF_lt {N : Nat → Nat} {w : Nat} : ∀ {k i j : Nat}, fndF N w k i = some j → j < i + k ∧ N j = w
  | 0, _, _, h => by cases h
  | k + 1, i, j, h => by
    unfold fndF at h
    by_cases z : N i = w
    · rw [if_pos z] at h
      cases h
      exact ⟨by omega, z⟩
    · rw [if_neg z] at h
      have := fndF_lt h
      exact ⟨by omega, this.2⟩
theorem fnd_lt {N : Nat → Nat} {n w j : Nat} (h : fnd N n w = some j) : j < n := by
  have := (fndF_lt h).1
  omega
theorem Pa_find_3_s (d : Nat) {a : Nat} (hk : kk a = (21, 6)) (h0 : 0 < a) {N : Nat → Nat} {n w : Nat} (hn : n ≤ 6) (hw : w < 27 ^ 8) (hN : ∀ j, j < n → N j < 27 ^ 8) {m : eM} (h : ∀ j, j < n → gL m a j = nm8 (N j)) : ∀ k i, i + k = n → Pa_find_3 d a (nI n) (nm8 w) (nI i) m = yI (pO (fndF N w k i)) m
  | 0, i, e => by
    rw [Pa_find_3_e, if_pos (by rw [n_le (by omega) (by omega)]; omega)]; rfl
  | k + 1, i, e => by
    have hl : aln m a = 6 := (al_t h0).trans (kk_l hk).2
    rw [Pa_find_3_e, if_neg (by rw [n_le (by omega) (by omega)]; omega)]
    unfold fndF
    have g : ∀ o, gl a o = o := fun o => if_pos ⟨by rw [(kk_l hk).1]; decide, by rw [(kk_l hk).1]; decide⟩
    rw [g, hl, toI, if_neg (by rw [n_le (by omega) (by omega)]; omega), ga_t (kk_l hk).1 (by omega) (by rw [(kk_l hk).2]; omega) (by rw [(kk_l hk).2]; decide), n_cl (by omega), h i (by omega), nI_1]
    by_cases y : N i = w
    · rw [if_pos y, if_neg (fun q => q ((cmp0 _ _).mpr (by rw [y])))]; rfl
    · rw [if_neg y, if_pos (fun q => y ((nm8_i (hN i (by omega)) hw).mp ((cmp0 _ _).mp q)))]
      exact Pa_find_3_s d hk h0 hn hw hN h k (i + 1) (by omega)
theorem Pa_find_s (d : Nat) {a : Nat} (hk : kk a = (21, 6)) (h0 : 0 < a) {N : Nat → Nat} {n w : Nat} (hn : n ≤ 6) (hw : w < 27 ^ 8) (hN : ∀ j, j < n → N j < 27 ^ 8) {m : eM} (h : ∀ j, j < n → gL m a j = nm8 (N j)) : Pa_find d a (nI n) (nm8 w) m = yI (pO (fnd N n w)) m := by
  rw [Pa_find_e]
  exact Pa_find_3_s d hk h0 hn hw hN h n 0 (by omega)
theorem Mo_whichOf_2_s (d : Nat) {kind : Nat} (hkd : kind < 3) {N : Nat → Nat} {n w : Nat} (hn : n ≤ 6) (hw : w < 27 ^ 8) (hN : ∀ j, j < n → N j < 27 ^ 8) {m : eM} (hs : Sk m) (h3 : gI m 210 (3 + kind) = nI n) (h : ∀ j, j < n → gL m 211 (18 + 6 * kind + j) = lN (N j)) (h7 : gL m 208 7 = lN w) : ∀ k i, i + k = n → Mo_whichOf_2 d 208 (nI kind) (nI i) m = yI (pO (fndF N w k i)) m
  | 0, i, e => by
    rw [Mo_whichOf_2_e _ _ _ _ _ kd_208, rf_208_10 hs, bR_s, show (3 : Int32) = nI 3 from rfl, nI_add, ga_210 (by omega), n_cl (by omega), h3, if_pos (by rw [n_le (by omega) (by omega)]; omega)]; rfl
  | k + 1, i, e => by
    rw [Mo_whichOf_2_e _ _ _ _ _ kd_208, rf_208_10 hs, bR_s, show (3 : Int32) = nI 3 from rfl, nI_add, ga_210 (by omega), n_cl (by omega), h3, if_neg (by rw [n_le (by omega) (by omega)]; omega), rf_208_11 hs, bR_s, show (6 : Int32) = nI 6 from rfl, show (18 : Int32) = nI 18 from rfl, nI_mul, nI_add, nI_add, ga_211 (by omega), n_cl (by omega), h i (by omega), h7, nI_1]
    unfold fndF
    by_cases y : N i = w
    · rw [if_pos y, if_neg (fun q => q ((cmp0 _ _).mpr (by rw [y])))]; rfl
    · rw [if_neg y, if_pos (fun q => y ((lN_i27 (hN i (by omega)) hw).mp ((cmp0 _ _).mp q)))]
      exact Mo_whichOf_2_s d hkd hn hw hN hs h3 h h7 k (i + 1) (by omega)
theorem Mo_whichOf_s (d : Nat) {kind : Nat} (hkd : kind < 3) {N : Nat → Nat} {n w : Nat} (hn : n ≤ 6) (hw : w < 27 ^ 8) (hN : ∀ j, j < n → N j < 27 ^ 8) {m : eM} (hs : Sk m) (h3 : gI m 210 (3 + kind) = nI n) (h : ∀ j, j < n → gL m 211 (18 + 6 * kind + j) = lN (N j)) (h7 : gL m 208 7 = lN w) : Mo_whichOf d 208 (nI kind) m = yI (pO (fnd N n w)) m := by
  rw [Mo_whichOf_e _ _ _ _ kd_208]
  exact Mo_whichOf_2_s d hkd hn hw hN hs h3 h h7 n 0 (by omega)
