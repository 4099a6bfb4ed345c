/-! ===== the class: talks that are written ===== -/
def ent (v : eV) (t i x : Nat) (m : eM) : Prop := gI m (t + 1) i = nI (who v x) ∧ gI m (t + 2) i = nI (whn v x) ∧ gL m (t + 3) i = soV v x ∧ gL m (t + 4) i = lieM v x 0 ∧ gL m (t + 5) i = lieM v x 1 ∧ who v x < nP v ∧ whn v x < 1440
/-- what writing entry i of a talk may write -/
def sTi (t i a k : Nat) : Bool := decide (t + 1 ≤ a ∧ a ≤ t + 5 ∧ k = i)
def sTt (t a _ : Nat) : Bool := decide (t ≤ a ∧ a ≤ t + 5)
theorem sTi_n {t i a k : Nat} (h : a < t + 1 ∨ t + 5 < a ∨ k ≠ i) : sTi t i a k = false := decide_eq_false (by omega)
theorem sTt_n {t a k : Nat} (h : a < t ∨ t + 5 < a) : sTt t a k = false := decide_eq_false (by omega)
theorem sTi_t {t i : Nat} {m m' : eM} (f : Fr (sTi t i) m m') : Fr (sTt t) m m' := f.up fun a k h => sTi_n (by have := of_decide_eq_false h; omega)
theorem ent.fr {v : eV} {t i x : Nat} {m m' : eM} {S : Nat → Nat → Bool} (h : ent v t i x m) (f : Fr S m m') (hS : ∀ a, t + 1 ≤ a → a ≤ t + 5 → S a i = false) : ent v t i x m' := by
  obtain ⟨a, b, c, d, e, q⟩ := h
  exact ⟨(f.1 _ _ (hS _ (by omega) (by omega))).trans a, (f.1 _ _ (hS _ (by omega) (by omega))).trans b, (f.2.1 _ _ (hS _ (by omega) (by omega))).trans c, (f.2.1 _ _ (hS _ (by omega) (by omega))).trans d, (f.2.1 _ _ (hS _ (by omega) (by omega))).trans e, q⟩
theorem TkP.e {v : eV} {t n : Nat} {g : Nat → Nat} {m : eM} (h : TkP v t n g m) {i : Nat} (hi : i < n) : ent v t i (g i) m := h.2.2.2.2 i hi
/-- a talk's cells and its size -/
def TkZ (t n : Nat) (m : eM) : Prop := stT t ∧ TkR t m ∧ gI m t 5 = nI n ∧ n ≤ 31
theorem TkP.z {v : eV} {t n : Nat} {g : Nat → Nat} {m : eM} (h : TkP v t n g m) : TkZ t n m := ⟨h.1, h.2.1, h.2.2.1, h.2.2.2.1⟩
theorem TkZ.P {v : eV} {t n : Nat} {g : Nat → Nat} {m : eM} (h : TkZ t n m) (he : ∀ i, i < n → ent v t i (g i) m) : TkP v t n g m := ⟨h.1, h.2.1, h.2.2.1, h.2.2.2, he⟩
theorem TkZ.fr {t n : Nat} {m m' : eM} {S : Nat → Nat → Bool} (h : TkZ t n m) (f : Fr S m m') (hS : S t 5 = false) : TkZ t n m' := by
  obtain ⟨h1, ⟨r0, r1, r2, r3, r4⟩, h2, h3⟩ := h
  exact ⟨h1, ⟨(f.r _ _).trans r0, (f.r _ _).trans r1, (f.r _ _).trans r2, (f.r _ _).trans r3, (f.r _ _).trans r4⟩, (f.1 _ _ hS).trans h2, h3⟩
theorem TkZ.kd {t n : Nat} {m : eM} (h : TkZ t n m) : kd t = 7 := kd_of h.1.2.1
/-- one entry, as if it were a talk of that index alone -/
theorem Tk_isIn_z {t n : Nat} {m : eM} (h : TkZ t n m) (d : Nat) {i : Nat} (hi : i < n) : Tk_isIn d t (nI i) m = yI 1 m := by
  have hn := h.2.2.2
  rw [Tk_isIn_e _ _ _ _ h.kd, h.2.2.1, if_neg (nI_pos (by omega)), if_neg (by rw [n_le (by omega) (by omega)]; omega), l_31, if_neg (by rw [n_le (by omega) (by omega)]; omega)]
theorem Tk_get_z {v : eV} {t n x : Nat} {m : eM} (h : TkZ t n m) {i : Nat} (hi : i < n) (he : ent v t i x m) {D : Nat} (hD : 1 ≤ D) : Tk_speaker D t (nI i) m = yI (nI (who v x)) m ∧ Tk_minute D t (nI i) m = yI (nI (whn v x)) m ∧ Tk_so D t (nI i) m = yL (soV v x) m ∧ Tk_lies D t (nI i) (0 : Int32) m = yL (lieM v x 0) m ∧ Tk_lies D t (nI i) (1 : Int32) m = yL (lieM v x 1) m := by
  obtain ⟨d, rfl⟩ : ∃ d, D = d + 1 := ⟨D - 1, by omega⟩
  have hn := h.2.2.2
  have hk := h.kd
  have hin := Tk_isIn_z h d hi
  obtain ⟨⟨h0, k0, k1, k2, k3, k4, k5⟩, ⟨r0, r1, r2, r3, r4⟩, -, -⟩ := h
  obtain ⟨e1, e2, e3, e4, e5, -⟩ := he
  have n31 : ¬ (nI 31 ≤ nI i) := by rw [n_le (by omega) (by omega)]; omega
  have p31 : nI i < nI 31 := by rw [n_lt (by omega) (by omega)]; omega
  refine ⟨?_, ?_, ?_, ?_, ?_⟩
  · rw [Tk_speaker_e _ _ _ _ hk, hin, bI_y, if_neg (by decide), r0, bR_s, pk_gl k1 (by decide), pk_len k1 (by omega), toI, if_neg n31, bR_s, pk_ga k1 (by omega) (by omega) (by decide), n_cl (by omega), e1]
  · rw [Tk_minute_e _ _ _ _ hk, hin, bI_y, if_neg (by decide), r1, bR_s, pk_gl k2 (by decide), pk_len k2 (by omega), toI, if_neg n31, bR_s, pk_ga k2 (by omega) (by omega) (by decide), n_cl (by omega), e2]
  · rw [Tk_so_e _ _ _ _ hk, hin, bI_y, if_neg (by decide), r2, bR_s, pk_gl k3 (by decide), pk_len k3 (by omega), toI, if_neg n31, bR_s, pk_ga k3 (by omega) (by omega) (by decide), n_cl (by omega), e3]
  · rw [Tk_lies_e _ _ _ _ _ hk, hin, bI_y, if_neg (by decide), r3, bR_s, pk_gl k4 (by decide), pk_len k4 (by omega), toI, if_neg n31, r4, bR_s, pk_gl k5 (by decide), pk_len k5 (by omega), toI, if_pos p31, if_neg (by decide), bR_s, pk_ga k4 (by omega) (by omega) (by decide), n_cl (by omega), e4]
  · rw [Tk_lies_e _ _ _ _ _ hk, hin, bI_y, if_neg (by decide), r3, bR_s, pk_gl k4 (by decide), pk_len k4 (by omega), toI, if_neg n31, r4, bR_s, pk_gl k5 (by decide), pk_len k5 (by omega), toI, if_pos p31, if_pos (by decide), bR_s, pk_ga k5 (by omega) (by omega) (by decide), n_cl (by omega), e5]
/-- the memory behind a write of entry i -/
def wrT (t i : Nat) (sp mn : Int32) (so pl kl : Int64) (m : eM) : eM := sL (sL (sL (sI (sI m (t + 1) i sp) (t + 2) i mn) (t + 3) i so) (t + 4) i pl) (t + 5) i kl
theorem wrT_f (t i : Nat) (sp mn : Int32) (so pl kl : Int64) (m : eM) : Fr (sTi t i) m (wrT t i sp mn so pl kl m) := ((((Fr.rfl'.i (decide_eq_true (by omega))).i (decide_eq_true (by omega))).l (decide_eq_true (by omega))).l (decide_eq_true (by omega))).l (decide_eq_true (by omega))
theorem wrT_e {v : eV} {t i x : Nat} (m : eM) (h1 : who v x < nP v) (h2 : whn v x < 1440) : ent v t i x (wrT t i (nI (who v x)) (nI (whn v x)) (soV v x) (lieM v x 0) (lieM v x 1) m) := by
  unfold wrT ent
  simp only [gI_sL, gI_sI, gL_sL, gL_sI]
  refine ⟨?_, ?_, ?_, ?_, ?_, h1, h2⟩
  · rw [if_neg (by omega), if_pos (by simp)]
  · rw [if_pos (by simp)]
  · rw [if_neg (by omega), if_neg (by omega), if_pos (by simp)]
  · rw [if_neg (by omega), if_pos (by simp)]
  · rw [if_pos (by simp)]
theorem Tk_set_s {t n : Nat} {m : eM} (h : TkZ t n m) {D : Nat} (hD : 1 ≤ D) {i : Nat} (hi : i < n) (sp mn : Int32) (so pl kl : Int64) : Tk_set D t (nI i) sp mn so pl kl m = yV (wrT t i sp mn so pl kl m) := by
  obtain ⟨d, rfl⟩ : ∃ d, D = d + 1 := ⟨D - 1, by omega⟩
  have hn := h.2.2.2
  have hk := h.kd
  have hin := Tk_isIn_z h d hi
  obtain ⟨⟨h0, k0, k1, k2, k3, k4, k5⟩, ⟨r0, r1, r2, r3, r4⟩, -, -⟩ := h
  have n31 : ¬ (nI 31 ≤ nI i) := by rw [n_le (by omega) (by omega)]; omega
  rw [Tk_set_e _ _ _ _ _ _ _ _ _ hk, hin, bI_y, if_neg (by decide), r0, bR_s, pk_gl k1 (by decide), pk_len k1 (by omega), toI, if_neg n31, r1, bR_s, pk_gl k2 (by decide), pk_len k2 (by omega), toI, if_neg n31, r2, bR_s, pk_gl k3 (by decide), pk_len k3 (by omega), toI, if_neg n31, r3, bR_s, pk_gl k4 (by decide), pk_len k4 (by omega), toI, if_neg n31, r4, bR_s, pk_gl k5 (by decide), pk_len k5 (by omega), toI, if_neg n31, bR_s, pk_gw k1 h0 (by omega) (by decide), mI_u, gR_sI, r1, bR_s, pk_gw k2 h0 (by omega) (by decide), mI_u, gR_sI, gR_sI, r2, bR_s, pk_gw k3 h0 (by omega) (by decide), mJ_u, gR_sL, gR_sI, gR_sI, r3, bR_s, pk_gw k4 h0 (by omega) (by decide), mJ_u, gR_sL, gR_sL, gR_sI, gR_sI, r4, bR_s, pk_gw k5 h0 (by omega) (by decide), mJ_u, n_cl (by omega)]
  rfl
theorem Tk_setFrom_s {v : eV} {t n t2 n2 x : Nat} {m : eM} (h : TkZ t n m) {D : Nat} (hD : 2 ≤ D) {i j : Nat} (hi : i < n) (h2 : TkZ t2 n2 m) (hj : j < n2) (he : ent v t2 j x m) : ∃ m', Fr (sTi t i) m m' ∧ Tk_setFrom D t (nI i) t2 (nI j) m = yV m' ∧ ent v t i x m' := by
  obtain ⟨d, rfl⟩ : ∃ d, D = d + 2 := ⟨D - 2, by omega⟩
  obtain ⟨g1, g2, g3, g4, g5⟩ := Tk_get_z h2 hj he (show 1 ≤ d + 1 by omega)
  refine ⟨_, wrT_f t i (nI (who v x)) (nI (whn v x)) (soV v x) (lieM v x 0) (lieM v x 1) m, ?_, wrT_e m he.2.2.2.2.2.1 he.2.2.2.2.2.2⟩
  rw [Tk_setFrom_e _ _ _ _ _ _ h.kd h2.kd, g1, bI_y, g2, bI_y, g3, bL_y, g4, bL_y, g5, bL_y, Tk_set_s h (by omega) hi, bV_y]
theorem Tk_copy_15_s {v : eV} {t t2 n : Nat} {g : Nat → Nat} (d : Nat) (ht : t + 5 < t2 ∨ t2 + 5 < t) : ∀ j i m, TkZ t n m → TkP v t2 n g m → (∀ k, k < i → ent v t k (g k) m) → i + j = n → ∃ m', Fr (sTt t) m m' ∧ Tk_copy_15 (d + 3) t t2 (nI i) m = yV m' ∧ TkP v t n g m'
  | 0, i, m, h, h2, he, e => by
    have hn := h.2.2.2
    refine ⟨m, Fr.rfl', ?_, h.P fun k hk => he k (by omega)⟩
    rw [Tk_copy_15_e _ _ _ _ _ h.kd h2.kd, h.2.2.1, if_pos (by rw [n_le (by omega) (by omega)]; omega)]
  | j + 1, i, m, h, h2, he, e => by
    have hn := h.2.2.2
    obtain ⟨m1, f1, e1, n1⟩ := Tk_setFrom_s h (show 2 ≤ d + 2 by omega) (show i < n by omega) h2.z (show i < n by omega) (h2.e (by omega))
    obtain ⟨m2, f2, e2, h3⟩ := Tk_copy_15_s d ht j (i + 1) m1 (h.fr f1 (sTi_n (by omega))) (h2.fr f1 fun a k q1 q2 => sTi_n (by omega)) (fun k hk => by
      by_cases z : k = i
      · subst z; exact n1
      · exact (he k (by omega)).fr f1 fun a q1 q2 => sTi_n (by omega)) (by omega)
    refine ⟨m2, (sTi_t f1).tr f2, ?_, h3⟩
    rw [Tk_copy_15_e _ _ _ _ _ h.kd h2.kd, h.2.2.1, if_neg (by rw [n_le (by omega) (by omega)]; omega), e1, bV_y, nI_1]
    exact e2
theorem Tk_copy_s {v : eV} {t t2 n : Nat} {g : Nat → Nat} {D : Nat} (hD : 3 ≤ D) (ht : t + 5 < t2 ∨ t2 + 5 < t) {m : eM} (hst : stT t) (hr : TkR t m) (h2 : TkP v t2 n g m) : ∃ m', Fr (sTt t) m m' ∧ Tk_copy D t t2 m = yV m' ∧ TkP v t n g m' := by
  obtain ⟨d, rfl⟩ : ∃ d, D = d + 3 := ⟨D - 3, by omega⟩
  have hn := h2.2.2.2.1
  have f1 : Fr (sTt t) m (sI m t 5 (nI n)) := Fr.rfl'.i (decide_eq_true (by omega))
  obtain ⟨m2, f2, e2, h3⟩ := Tk_copy_15_s d ht n 0 (sI m t 5 (nI n)) ⟨hst, hr, gI_w _ _ _ _, hn⟩ (h2.fr f1 fun a k q1 q2 => sTt_n (by omega)) (fun k hk => absurd hk (Nat.not_lt_zero k)) (by omega)
  refine ⟨m2, f1.tr f2, ?_, h3⟩
  have em : iMin (nI n) (nI 31) = nI n := by
    unfold iMin
    rw [if_neg]
    rw [n_lt (by omega) (by omega)]
    omega
  rw [Tk_copy_e _ _ _ _ (kd_of hst.2.1) h2.kd, h2.2.2.1, l_31, em, mI_u]
  exact e2
/-- one of another talk put in by its minute -/
theorem Tk_insert_22_s {v : eV} {t t2 n n2 : Nat} {r : Nat → Nat} {g2 : Nat → Nat} (d : Nat) (ht : t + 5 < t2 ∨ t2 + 5 < t) {j : Nat} (hj : j < n2) (hn : n < 31) : ∀ i m, i ≤ n → TkZ t (n + 1) m → TkP v t2 n2 g2 m → (∀ k, k < i → ent v t k (r k) m) → (∀ k, i < k → k ≤ n → ent v t k (r (k - 1)) m) → slot v r (g2 j) n = slot v r (g2 j) i → ∃ m', Fr (sTt t) m m' ∧ Tk_insert_22 (d + 3) t t2 (nI j) (nI i) m = yV m' ∧ TkP v t (n + 1) (insF v r n (g2 j)) m' := by
  have fin : ∀ i m, i ≤ n → TkZ t (n + 1) m → TkP v t2 n2 g2 m → (∀ k, k < i → ent v t k (r k) m) → (∀ k, i < k → k ≤ n → ent v t k (r (k - 1)) m) → slot v r (g2 j) n = i → ∃ m', Fr (sTt t) m m' ∧ (bV (Tk_setFrom (d + 2) t (nI i) t2 (nI j) m) fun m1 => yV m1) = yV m' ∧ TkP v t (n + 1) (insF v r n (g2 j)) m' := by
    intro i m hi hz h2 ha hb hs
    obtain ⟨m1, f1, e1, n1⟩ := Tk_setFrom_s hz (show 2 ≤ d + 2 by omega) (show i < n + 1 by omega) h2.z hj (h2.e hj)
    refine ⟨m1, sTi_t f1, by rw [e1, bV_y], (hz.fr f1 (sTi_n (by omega))).P fun k hk => ?_⟩
    unfold insF
    rw [hs]
    by_cases z1 : k < i
    · rw [if_pos z1]
      exact (ha k z1).fr f1 fun a q1 q2 => sTi_n (by omega)
    · rw [if_neg z1]
      by_cases z2 : k = i
      · rw [if_pos z2, z2]; exact n1
      · rw [if_neg z2]
        exact (hb k (by omega) (by omega)).fr f1 fun a q1 q2 => sTi_n (by omega)
  intro i
  induction i with
  | zero =>
    intro m hi hz h2 ha hb hs
    obtain ⟨m', f, e, q⟩ := fin 0 m hi hz h2 ha hb hs
    refine ⟨m', f, ?_, q⟩
    rw [Tk_insert_22_e _ _ _ _ _ _ hz.kd h2.kd, if_pos (by decide)]
    exact e
  | succ i ih =>
    intro m hi hz h2 ha hb hs
    have hn1 := hz.2.2.2
    have hn2 := h2.2.2.2.1
    have g1 := (Tk_get_z hz (show i < n + 1 by omega) (ha i (by omega)) (show 1 ≤ d + 2 by omega)).2.1
    have g3 := Tk_minute_s h2 (show 1 ≤ d + 2 by omega) hj
    have w1 := (ha i (by omega)).2.2.2.2.2.2
    have w2 := (h2.e hj).2.2.2.2.2.2
    rw [Tk_insert_22_e _ _ _ _ _ _ hz.kd h2.kd, if_neg (by rw [n_le0 (by omega)]; omega), nI_pred, g1, bI_y, g3, bI_y, pk_m1]
    by_cases z : whn v (r i) ≤ whn v (g2 j)
    · rw [if_pos (by rw [n_le (by omega) (by omega)]; exact z)]
      exact fin (i + 1) m hi hz h2 ha hb (by rw [hs]; unfold slot; rw [if_neg (by omega)])
    · rw [if_neg (by rw [n_le (by omega) (by omega)]; exact z)]
      obtain ⟨m1, f1, e1, n1⟩ := Tk_setFrom_s hz (show 2 ≤ d + 2 by omega) (show i + 1 < n + 1 by omega) hz (show i < n + 1 by omega) (ha i (by omega))
      obtain ⟨m2, f2, e2, q2⟩ := ih m1 (by omega) (hz.fr f1 (sTi_n (by omega))) (h2.fr f1 fun a k q1 q2 => sTi_n (by omega)) (fun k hk => (ha k (by omega)).fr f1 fun a q1 q2 => sTi_n (by omega)) (fun k h1 h3 => by
        by_cases y : k = i + 1
        · subst y; exact n1
        · exact (hb k (by omega) h3).fr f1 fun a q1 q2 => sTi_n (by omega)) (by rw [hs]; show (if _ then _ else _) = _; rw [if_pos (by omega)])
      refine ⟨m2, (sTi_t f1).tr f2, ?_, q2⟩
      rw [e1, bV_y]
      exact e2
theorem Tk_insert_s {v : eV} {t t2 n n2 : Nat} {r : Nat → Nat} {g2 : Nat → Nat} {D : Nat} (hD : 3 ≤ D) (ht : t + 5 < t2 ∨ t2 + 5 < t) {j : Nat} (hj : j < n2) (hn : n < 31) {m : eM} (h : TkP v t n r m) (h2 : TkP v t2 n2 g2 m) : ∃ m', Fr (sTt t) m m' ∧ Tk_insert D t t2 (nI j) m = yV m' ∧ TkP v t (n + 1) (insF v r n (g2 j)) m' := by
  obtain ⟨d, rfl⟩ : ∃ d, D = d + 3 := ⟨D - 3, by omega⟩
  have f1 : Fr (sTt t) m (sI m t 5 (nI (n + 1))) := Fr.rfl'.i (decide_eq_true (by omega))
  have f1' : Fr (fun a k => decide (a = t ∧ k = 5)) m (sI m t 5 (nI (n + 1))) := Fr.rfl'.i (decide_eq_true (by omega))
  obtain ⟨m2, f2, e2, h3⟩ := Tk_insert_22_s (v := v) (r := r) (g2 := g2) d ht hj hn n (sI m t 5 (nI (n + 1))) (Nat.le_refl _) ⟨h.1, h.2.1, gI_w _ _ _ _, by omega⟩ (h2.fr f1 fun a k q1 q2 => sTt_n (by omega)) (fun k hk => (h.e hk).fr f1' fun a q1 q2 => decide_eq_false (by omega)) (fun k q1 q2 => by omega) rfl
  refine ⟨m2, f1.tr f2, ?_, h3⟩
  have em : iMin (nI (n + 1)) (nI 31) = nI (n + 1) := by
    unfold iMin
    rw [if_neg]
    rw [n_lt (by omega) (by omega)]
    omega
  rw [Tk_insert_e _ _ _ _ _ h.kd h2.kd, h.2.2.1, nI_1, l_31, em, mI_u, gI_w, nI_pred]
  exact e2
