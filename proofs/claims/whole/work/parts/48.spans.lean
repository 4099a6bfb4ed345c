/-! ===== sums over minutes, part by part ===== -/
def smN (f : Nat → Nat) : Nat → Nat
  | 0 => 0
  | n + 1 => smN f n + f n
theorem smN_c {f g : Nat → Nat} : ∀ {n : Nat}, (∀ k, k < n → f k = g k) → smN f n = smN g n
  | 0, _ => rfl
  | n + 1, h => by unfold smN; rw [smN_c fun k hk => h k (by omega), h n (by omega)]
theorem smN_a (f : Nat → Nat) (m : Nat) : ∀ n, smN f (m + n) = smN f m + smN (fun k => f (m + k)) n
  | 0 => rfl
  | n + 1 => by
    show smN f (m + n) + f (m + n) = smN f m + (smN (fun k => f (m + k)) n + f (m + n))
    rw [smN_a f m n, Nat.add_assoc]
theorem smN_z {f : Nat → Nat} : ∀ {n : Nat}, (∀ k, k < n → f k = 0) → smN f n = 0
  | 0, _ => rfl
  | n + 1, h => by unfold smN; rw [smN_z fun k hk => h k (by omega), h n (by omega)]
theorem cnt_sm (p : Nat → Bool) : ∀ n, cnt p n = smN (fun k => if p k = true then 1 else 0) n
  | 0 => rfl
  | n + 1 => by unfold cnt smN; rw [cnt_sm p n]
/-- at whom in the minute before -/
def prv (v : eV) (c m : Nat) : Nat := if m = 0 then 6 else pP v c (m - 1)
theorem CQ_in {v : eV} {c : Nat} {S Q : Nat → Nat} {N : Nat} (h : CQ v c (nS v) S Q N) {m k : Nat} (hk : k < N) (h1 : S k ≤ m) (h2 : m < 1440) (h3 : m < eS S N (k + 1)) : pP v c m = Q k := h.2.2.2.2 m (fun z => absurd z (Nat.lt_irrefl _)) k hk h1 fun z => by unfold eS at h3; rw [if_pos z] at h3; exact h3
theorem CQ_mono {v : eV} {c : Nat} {S Q : Nat → Nat} {N : Nat} (h : CQ v c (nS v) S Q N) {k : Nat} (hk : k + 1 < N) : S k ≤ S (k + 1) := by
  by_cases z : k = 0
  · subst z; rw [h.1.2.2.1]; exact Nat.zero_le _
  · exact Nat.le_of_lt (h.2.1 k (by omega) hk)
/-- F (before, now) summed over the minutes is F over the turns -/
theorem sum_turns {v : eV} {c : Nat} {S Q : Nat → Nat} {N : Nat} (h : CQ v c (nS v) S Q N) (F : Nat → Nat → Nat) (hF : ∀ x, F x x = 0) {mn : Nat} (hm : mn < 1440) : ∀ k, k + 1 ≤ N → smN (fun m => F (prv v c m) (pP v c m)) (min (eS S N (k + 1)) (mn + 1)) = smN (fun i => if 1 ≤ i ∧ S i ≤ mn then F (Q (i - 1)) (Q i) else 0) (k + 1)
  | 0, hk => by
    have e0 : smN (fun i => if 1 ≤ i ∧ S i ≤ mn then F (Q (i - 1)) (Q i) else 0) (0 + 1) = 0 := by
      show 0 + (if 1 ≤ 0 ∧ S 0 ≤ mn then _ else 0) = 0
      rw [if_neg (by omega)]
    rw [e0]
    refine smN_z fun m hm2 => ?_
    have h6 : ∀ m', m' < min (eS S N (0 + 1)) (mn + 1) → pP v c m' = 6 := fun m' h' => by
      rw [CQ_in h (show 0 < N by omega) (by rw [h.1.2.2.1]; omega) (by omega) (by omega)]
      exact h.1.2.2.2
    show F (prv v c m) (pP v c m) = 0
    unfold prv
    by_cases z : m = 0
    · rw [if_pos z, h6 m hm2, hF]
    · rw [if_neg z, h6 m hm2, h6 (m - 1) (by omega), hF]
  | k + 1, hk => by
    have ih := sum_turns h F hF hm k (by omega)
    have eSk : eS S N (k + 1) = S (k + 1) := if_pos (by omega)
    have es : smN (fun i => if 1 ≤ i ∧ S i ≤ mn then F (Q (i - 1)) (Q i) else 0) (k + 1 + 1) = smN (fun i => if 1 ≤ i ∧ S i ≤ mn then F (Q (i - 1)) (Q i) else 0) (k + 1) + (if 1 ≤ k + 1 ∧ S (k + 1) ≤ mn then F (Q (k + 1 - 1)) (Q (k + 1)) else 0) := rfl
    rw [es, ← ih, eSk]
    by_cases z : S (k + 1) ≤ mn
    · rw [if_pos ⟨by omega, z⟩, show k + 1 - 1 = k by omega, show min (S (k + 1)) (mn + 1) = S (k + 1) by omega]
      have hlt : S (k + 1) < min (eS S N (k + 1 + 1)) (mn + 1) := by
        unfold eS
        by_cases y : k + 1 + 1 < N
        · rw [if_pos y]
          have := h.2.1 (k + 1) (by omega) y
          omega
        · rw [if_neg y]; omega
      obtain ⟨r, hr⟩ : ∃ r, min (eS S N (k + 1 + 1)) (mn + 1) = S (k + 1) + (1 + r) := ⟨min (eS S N (k + 1 + 1)) (mn + 1) - S (k + 1) - 1, by omega⟩
      rw [hr, smN_a, smN_a]
      have hin : ∀ m', S (k + 1) ≤ m' → m' < S (k + 1) + (1 + r) → pP v c m' = Q (k + 1) := fun m' q1 q2 => CQ_in h (by omega) q1 (by omega) (by omega)
      have ez : smN (fun i => F (prv v c (S (k + 1) + (1 + i))) (pP v c (S (k + 1) + (1 + i)))) r = 0 := smN_z fun i hi => by
        show F (prv v c (S (k + 1) + (1 + i))) (pP v c (S (k + 1) + (1 + i))) = 0
        unfold prv
        rw [if_neg (by omega), hin _ (by omega) (by omega), hin _ (by omega) (by omega), hF]
      have e1 : smN (fun i => F (prv v c (S (k + 1) + i)) (pP v c (S (k + 1) + i))) 1 = F (Q k) (Q (k + 1)) := by
        show 0 + F (prv v c (S (k + 1) + 0)) (pP v c (S (k + 1) + 0)) = _
        rw [Nat.zero_add, Nat.add_zero, hin _ (Nat.le_refl _) (by omega)]
        unfold prv
        by_cases y : S (k + 1) = 0
        · rw [if_pos y]
          have : k = 0 := by
            rcases Nat.eq_zero_or_pos k with q | q
            · exact q
            · have := h.2.1 k q (by omega); omega
          subst this
          rw [h.1.2.2.2]
        · rw [if_neg y]
          have hk2 : S k ≤ S (k + 1) - 1 := by
            rcases Nat.eq_zero_or_pos k with q | q
            · subst q; rw [h.1.2.2.1]; omega
            · have := h.2.1 k q (by omega); omega
          rw [CQ_in h (show k < N by omega) hk2 (by omega) (by rw [eSk]; omega)]
      have ez' : smN (fun k_1 => (fun k_2 => (fun m => F (prv v c m) (pP v c m)) (S (k + 1) + k_2)) (1 + k_1)) r = 0 := ez
      have e1' : smN (fun k_1 => (fun m => F (prv v c m) (pP v c m)) (S (k + 1) + k_1)) 1 = F (Q k) (Q (k + 1)) := e1
      rw [ez', e1', Nat.add_zero]
      rfl
    · rw [if_neg (fun q => z q.2), Nat.add_zero]
      have h1 : eS S N (k + 1 + 1) ≥ mn + 1 := by
        unfold eS
        by_cases y : k + 1 + 1 < N
        · rw [if_pos y]
          have := h.2.1 (k + 1) (by omega) y
          omega
        · rw [if_neg y]; omega
      rw [show min (eS S N (k + 1 + 1)) (mn + 1) = mn + 1 by omega, show min (S (k + 1)) (mn + 1) = mn + 1 by omega]
      rfl
theorem sum_turns_all {v : eV} {c : Nat} {S Q : Nat → Nat} {N : Nat} (h : CQ v c (nS v) S Q N) (F : Nat → Nat → Nat) (hF : ∀ x, F x x = 0) {mn : Nat} (hm : mn < 1440) : smN (fun m => F (prv v c m) (pP v c m)) (mn + 1) = smN (fun i => if 1 ≤ i ∧ S i ≤ mn then F (Q (i - 1)) (Q i) else 0) N := by
  have hN := h.1.1
  have := sum_turns h F hF hm (N - 1) (by omega)
  rw [show N - 1 + 1 = N by omega, show eS S N N = 1440 from if_neg (Nat.lt_irrefl _), show min 1440 (mn + 1) = mn + 1 by omega] at this
  exact this
/-- minutes of a part in the span from a, ahead of T -/
def ovl (S : Nat → Nat) (N a T k : Nat) : Nat := min (eS S N (k + 1)) T - max (eS S N k) a
theorem cnt_span (a x y : Nat) : ∀ n, cnt (fun i => decide (x ≤ a + i ∧ a + i < y)) n = min y (a + n) - max x a
  | 0 => by show 0 = _; omega
  | n + 1 => by
    show cnt _ n + _ = _
    rw [cnt_span a x y n]
    by_cases z : x ≤ a + n ∧ a + n < y
    · rw [if_pos (decide_eq_true z)]; omega
    · rw [if_neg (by simpa using z)]; omega
/-- how many minutes of a span it pointed at one -/
def poiV (v : eV) (c q a T : Nat) : Nat := cnt (fun i => decide (pP v c (a + i) = q)) (T - a)
theorem sum_parts {v : eV} {c : Nat} {S Q : Nat → Nat} {N : Nat} (h : CQ v c (nS v) S Q N) (q : Nat) {a T : Nat} (hT : T ≤ 1440) (ha : a ≤ T) : ∀ k, k ≤ N → smN (fun i => if Q i = q then ovl S N a T i else 0) k = cnt (fun i => decide (a + i < (if k = 0 then 0 else eS S N k)) && decide (pP v c (a + i) = q)) (T - a)
  | 0, _ => (cnt_f fun i _ => by rw [if_pos rfl, decide_eq_false (Nat.not_lt_zero _), Bool.false_and]).symm
  | k + 1, hk => by
    have ih := sum_parts h q hT ha k (by omega)
    have e : smN (fun i => if Q i = q then ovl S N a T i else 0) (k + 1) = smN (fun i => if Q i = q then ovl S N a T i else 0) k + (if Q k = q then ovl S N a T k else 0) := rfl
    have eSk : eS S N k = S k := if_pos (by omega)
    have hmono : S k ≤ eS S N (k + 1) ∨ 1440 ≤ eS S N (k + 1) := by
      unfold eS
      by_cases y : k + 1 < N
      · rw [if_pos y]; exact Or.inl (CQ_mono h y)
      · rw [if_neg y]; exact Or.inr (Nat.le_refl _)
    have e0 : (if k = 0 then 0 else eS S N k) = S k := by
      by_cases y : k = 0
      · subst y; rw [if_pos rfl, h.1.2.2.1]
      · rw [if_neg y, eSk]
    have hov : cnt (fun i => decide (S k ≤ a + i ∧ a + i < eS S N (k + 1)) && decide (pP v c (a + i) = q)) (T - a) = if Q k = q then ovl S N a T k else 0 := by
      have hin : ∀ i, i < T - a → S k ≤ a + i → a + i < eS S N (k + 1) → pP v c (a + i) = Q k := fun i h1 h2 h3 => CQ_in h (by omega) h2 (by omega) h3
      by_cases z : Q k = q
      · rw [if_pos z]
        unfold ovl
        rw [eSk, cnt_c (q := fun i => decide (S k ≤ a + i ∧ a + i < eS S N (k + 1))) (fun i hi => ?_), cnt_span, show a + (T - a) = T by omega]
        by_cases y : S k ≤ a + i ∧ a + i < eS S N (k + 1)
        · rw [decide_eq_true y, hin i hi y.1 y.2, decide_eq_true z]; rfl
        · rw [decide_eq_false y]; rfl
      · rw [if_neg z]
        refine cnt_f fun i hi => ?_
        by_cases y : S k ≤ a + i ∧ a + i < eS S N (k + 1)
        · rw [decide_eq_true y, hin i hi y.1 y.2, decide_eq_false z]; rfl
        · rw [decide_eq_false y]; rfl
    rw [e, ih, ← hov, e0, if_neg (Nat.succ_ne_zero k)]
    refine (cnt_add (fun i hi => ?_) (fun i hi => ?_)).symm
    · simp only [Bool.and_eq_true, decide_eq_true_iff]
      constructor
      · rintro ⟨p1, p2⟩
        by_cases y : a + i < S k
        · exact Or.inl ⟨y, p2⟩
        · exact Or.inr ⟨⟨by omega, p1⟩, p2⟩
      · rintro (⟨p1, p2⟩ | ⟨⟨p1, p2⟩, p3⟩)
        · exact ⟨by omega, p2⟩
        · exact ⟨p2, p3⟩
    · simp only [Bool.and_eq_true, decide_eq_true_iff]
      rintro ⟨⟨p1, _⟩, ⟨p2, _⟩, _⟩
      omega
theorem sum_parts_all {v : eV} {c : Nat} {S Q : Nat → Nat} {N : Nat} (h : CQ v c (nS v) S Q N) (q : Nat) {a T : Nat} (hT : T ≤ 1440) (ha : a ≤ T) : smN (fun i => if Q i = q then ovl S N a T i else 0) N = poiV v c q a T := by
  have hN := h.1.1
  rw [sum_parts h q hT ha N (Nat.le_refl _), if_neg (by omega)]
  unfold poiV
  exact cnt_c fun i hi => by
    rw [show eS S N N = 1440 from if_neg (Nat.lt_irrefl _), decide_eq_true (by omega), Bool.true_and]
/-! ints -/
theorem iMax_n {a b : Nat} (ha : a < 2147483648) (hb : b < 2147483648) : iMax (nI a) (nI b) = nI (max a b) := by
  unfold iMax
  by_cases z : a < b
  · rw [if_pos (by rw [n_lt ha hb]; exact z), show max a b = b by omega]
  · rw [if_neg (by rw [n_lt ha hb]; exact z), show max a b = a by omega]
theorem toI_m1 {a : Nat} (ha : a < 1073741824) : (nI a - 1).toInt = (a : Int) - 1 := pk_sub_toInt (b := 1) ha (by decide)
theorem iMin_m {a b : Nat} (ha : a < 1073741824) (hb : b < 1073741824) : iMin (nI a - 1) (nI b - 1) = nI (min a b) - 1 := by
  unfold iMin
  by_cases z : b < a
  · rw [if_pos (by rw [Int32.lt_iff_toInt_lt, toI_m1 ha, toI_m1 hb]; omega), show min a b = b by omega]
  · rw [if_neg (by rw [Int32.lt_iff_toInt_lt, toI_m1 ha, toI_m1 hb]; omega), show min a b = a by omega]
theorem sub1_add1 (x y : Int32) : x - 1 - y + 1 = x - y := by
  rw [Int32.sub_eq_add_neg, Int32.sub_eq_add_neg, Int32.sub_eq_add_neg, Int32.add_assoc, Int32.add_assoc, Int32.add_comm (-y) 1, ← Int32.add_assoc (-1) 1 (-y), Int32.add_left_neg, Int32.zero_add]
theorem iMax0_sub {a b : Nat} (ha : a < 1073741824) (hb : b < 1073741824) : iMax 0 (nI a - nI b) = nI (a - b) := by
  unfold iMax
  by_cases z : b ≤ a
  · rw [pk_sub z]
    by_cases y : a - b = 0
    · rw [y]; rfl
    · rw [if_pos (by show nI 0 < _; rw [n_lt (by omega) (by omega)]; omega)]
  · rw [if_neg, show a - b = 0 by omega]
    · rfl
    · rw [Int32.lt_iff_toInt_lt, pk_sub_toInt (by omega) (by omega)]
      have : (0 : Int32).toInt = 0 := by decide
      omega
theorem n_as (b : Nat) : nI b = nI (b + 1) - 1 := (nI_pred b).symm
theorem Co_minutesOf_s {t : Nat} {S Q : Nat → Nat} {N : Nat} {m : eM} (h : CoP t S Q N m) {D : Nat} (hD : 1 ≤ D) {k a T : Nat} (hk : k < N) (ha : a < 2000) (hT : T < 2000) : Co_minutesOf D t (nI k) (nI a) (nI T - 1) m = yI (nI (ovl S N a T k)) m := by
  obtain ⟨d, rfl⟩ : ∃ d, D = d + 1 := ⟨D - 1, by omega⟩
  have hN := h.2.2.2.1
  have e1 : eS S N k < 2000 := by
    rw [show eS S N k = S k from if_pos hk]
    exact (h.2.2.2.2 k hk).2.2.1
  have e2 : eS S N (k + 1) < 2000 := by
    unfold eS
    by_cases y : k + 1 < N
    · rw [if_pos y]; exact (h.2.2.2.2 (k + 1) y).2.2.1
    · rw [if_neg y]; decide
  rw [Co_minutesOf_e _ _ _ _ _ _ h.kd, nI_1, Co_start_s h _ (by omega), bI_y, Co_start_s h _ (by omega), bI_y, iMin_m (by omega) (by omega), iMax_n (by omega) (by omega), sub1_add1, iMax0_sub (by omega) (by omega)]
  rfl
theorem Co_minutesAt_6_s {t : Nat} {S Q : Nat → Nat} {N : Nat} {m : eM} (h : CoP t S Q N m) (d : Nat) {q a T : Nat} (hq : q < 7) (ha : a < 2000) (hT : T < 2000) : ∀ j k, k + j = N → Co_minutesAt_6 (d + 2) t (pI q) (nI a) (nI T - 1) (nI (smN (fun i => if Q i = q then ovl S N a T i else 0) k)) (nI k) m = yI (nI (smN (fun i => if Q i = q then ovl S N a T i else 0) N)) m
  | 0, k, e => by
    have hN := h.2.2.2.1
    rw [Co_minutesAt_6_e _ _ _ _ _ _ _ _ h.kd, h.2.2.1, if_pos (by rw [n_le (by omega) (by omega)]; omega), show N = k by omega]
  | j + 1, k, e => by
    have hN := h.2.2.2.1
    have hQ := (h.2.2.2.2 k (by omega)).2.2.2
    have ih := Co_minutesAt_6_s h d hq ha hT j (k + 1) (by omega)
    have es : smN (fun i => if Q i = q then ovl S N a T i else 0) (k + 1) = smN (fun i => if Q i = q then ovl S N a T i else 0) k + (if Q k = q then ovl S N a T k else 0) := rfl
    rw [Co_minutesAt_6_e _ _ _ _ _ _ _ _ h.kd, h.2.2.1, if_neg (by rw [n_le (by omega) (by omega)]; omega), Co_whom_s h _ (by omega), bI_y, nI_1, Co_minutesOf_s h (by omega) (by omega) ha hT, bI_y, nI_add, ← ih, es]
    by_cases z : Q k = q
    · rw [if_neg (fun y => y (by rw [z])), if_pos z]
    · rw [if_pos (fun y => z ((pI_i hQ hq).mp y)), if_neg z, show (0 : Int32) = nI 0 from rfl, nI_add]
theorem Co_minutesAt_s {t : Nat} {S Q : Nat → Nat} {N : Nat} {m : eM} (h : CoP t S Q N m) {D : Nat} (hD : 2 ≤ D) {q a T : Nat} (hq : q < 7) (ha : a < 2000) (hT : T < 2000) : Co_minutesAt D t (pI q) (nI a) (nI T - 1) m = yI (nI (smN (fun i => if Q i = q then ovl S N a T i else 0) N)) m := by
  obtain ⟨d, rfl⟩ : ∃ d, D = d + 2 := ⟨D - 2, by omega⟩
  rw [Co_minutesAt_e _ _ _ _ _ _ h.kd]
  exact Co_minutesAt_6_s h d hq ha hT N 0 (by omega)
theorem Co_turns_4_s {t : Nat} {S Q : Nat → Nat} {N : Nat} {m : eM} (h : CoP t S Q N m) (d : Nat) {mn : Nat} (hm : mn < 2000) : ∀ j k, 1 ≤ k → k + j = N → Co_turns_4 (d + 1) t (nI mn) (nI (smN (fun i => if 1 ≤ i ∧ S i ≤ mn then 1 else 0) k)) (nI k) m = yI (nI (smN (fun i => if 1 ≤ i ∧ S i ≤ mn then 1 else 0) N)) m
  | 0, k, h1, e => by
    have hN := h.2.2.2.1
    rw [Co_turns_4_e _ _ _ _ _ _ h.kd, h.2.2.1, if_pos (by rw [n_le (by omega) (by omega)]; omega), show N = k by omega]
  | j + 1, k, h1, e => by
    have hN := h.2.2.2.1
    have hS := (h.2.2.2.2 k (by omega)).2.2.1
    have ih := Co_turns_4_s h d hm j (k + 1) (by omega) (by omega)
    have es : smN (fun i => if 1 ≤ i ∧ S i ≤ mn then 1 else 0) (k + 1) = smN (fun i => if 1 ≤ i ∧ S i ≤ mn then 1 else 0) k + (if 1 ≤ k ∧ S k ≤ mn then 1 else 0) := rfl
    rw [Co_turns_4_e _ _ _ _ _ _ h.kd, h.2.2.1, if_neg (by rw [n_le (by omega) (by omega)]; omega), Co_start_s h _ (by omega), bI_y, nI_1, nI_1, ← ih, es, show eS S N k = S k from if_pos (by omega)]
    by_cases z : S k ≤ mn
    · rw [if_neg (by rw [n_lt (by omega) (by omega)]; omega), if_pos ⟨h1, z⟩]
    · rw [if_pos (by rw [n_lt (by omega) (by omega)]; omega), if_neg (fun y => z y.2), show (0 : Int32) = nI 0 from rfl, nI_add]
