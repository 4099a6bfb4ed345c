/-! ===== BLIND ===== -/
def mkN (f : Nat → Bool) : Nat → Nat
  | 0 => 0
  | n + 1 => mkN f n ||| (if f n = true then 2 ^ n else 0)
def exB (f : Nat → Bool) : Nat → Bool
  | 0 => false
  | n + 1 => exB f n || f n
theorem exB_i {f : Nat → Bool} : ∀ {n : Nat}, exB f n = true ↔ ∃ k, k < n ∧ f k = true
  | 0 => ⟨fun h => (by cases h), fun ⟨k, h, _⟩ => absurd h (Nat.not_lt_zero k)⟩
  | n + 1 => by
    show (exB f n || f n) = true ↔ _
    rw [Bool.or_eq_true, exB_i (n := n)]
    constructor
    · rintro (⟨k, h1, h2⟩ | h)
      · exact ⟨k, by omega, h2⟩
      · exact ⟨n, by omega, h⟩
    · rintro ⟨k, h1, h2⟩
      by_cases z : k = n
      · subst z; exact Or.inr h2
      · exact Or.inl ⟨k, by omega, h2⟩
theorem mkN_t (f : Nat → Bool) (i : Nat) : ∀ n, (mkN f n).testBit i = (decide (i < n) && f i)
  | 0 => by
    show Nat.testBit 0 i = _
    rw [Nat.zero_testBit]
    rfl
  | n + 1 => by
    show (mkN f n ||| (if f n = true then 2 ^ n else 0)).testBit i = _
    rw [Nat.testBit_or, mkN_t f i n]
    by_cases z : i = n
    · subst z
      rw [decide_eq_false (Nat.lt_irrefl i), decide_eq_true (Nat.lt_succ_self i), Bool.false_and, Bool.false_or, Bool.true_and]
      by_cases y : f i = true
      · rw [if_pos y, y, Nat.testBit_two_pow_self]
      · rw [if_neg y, Nat.zero_testBit]; rw [Bool.not_eq_true] at y; exact y.symm
    · have : (if f n = true then 2 ^ n else 0).testBit i = false := by
        by_cases y : f n = true
        · rw [if_pos y, Nat.testBit_two_pow, decide_eq_false (fun q => z q.symm)]
        · rw [if_neg y, Nat.zero_testBit]
      rw [this, Bool.or_false]
      by_cases y : i < n
      · rw [decide_eq_true y, decide_eq_true (show i < n + 1 by omega)]
      · rw [decide_eq_false y, decide_eq_false (show ¬ i < n + 1 by omega)]
theorem mkN_lt (f : Nat → Bool) : ∀ n, mkN f n < 2 ^ n
  | 0 => Nat.lt_succ_self 0
  | n + 1 => by
    have h1 := mkN_lt f n
    have h2 : 2 ^ n < 2 ^ (n + 1) := Nat.pow_lt_pow_right (by decide) (by omega)
    show mkN f n ||| (if f n = true then 2 ^ n else 0) < 2 ^ (n + 1)
    refine Nat.or_lt_two_pow (by omega) ?_
    split
    · exact h2
    · exact Nat.pow_pos (by decide)
def nrS (A : Nat → Nat → Bool) (n S : Nat) : Nat := mkN (fun i => exB (fun q => A i q && S.testBit q) n) n
theorem nrS_t {A : Nat → Nat → Bool} {n S i : Nat} : (nrS A n S).testBit i = true ↔ i < n ∧ ∃ q, q < n ∧ A i q = true ∧ S.testBit q = true := by
  unfold nrS
  rw [mkN_t, Bool.and_eq_true, decide_eq_true_iff, exB_i]
  constructor
  · rintro ⟨h, q, h1, h2⟩
    rw [Bool.and_eq_true] at h2
    exact ⟨h, q, h1, h2⟩
  · rintro ⟨h, q, h1, h2⟩
    exact ⟨h, q, h1, by rw [Bool.and_eq_true]; exact h2⟩
def crS (A : Nat → Nat → Bool) (n p : Nat) : Nat → Nat
  | 0 => 2 ^ p
  | t + 1 => nrS A n (crS A n p t)
theorem crS_lt {A : Nat → Nat → Bool} {n p : Nat} (hp : p < n) : ∀ t, crS A n p t < 2 ^ n
  | 0 => Nat.pow_lt_pow_right (by decide) hp
  | t + 1 => mkN_lt _ _
theorem cnt_lt {p q : Nat → Bool} : ∀ {n : Nat}, (∀ k, k < n → p k = true → q k = true) → cnt p n ≤ cnt q n ∧ ((∃ k, k < n ∧ q k = true ∧ ¬ p k = true) → cnt p n < cnt q n)
  | 0, _ => ⟨Nat.le_refl _, fun ⟨k, h, _⟩ => absurd h (Nat.not_lt_zero k)⟩
  | n + 1, h => by
    obtain ⟨h1, h2⟩ := cnt_lt (n := n) fun k hk => h k (by omega)
    have hn := h n (by omega)
    show cnt p n + (if p n = true then 1 else 0) ≤ cnt q n + (if q n = true then 1 else 0) ∧ (_ → cnt p n + (if p n = true then 1 else 0) < cnt q n + (if q n = true then 1 else 0))
    have hle : (if p n = true then 1 else 0) ≤ (if q n = true then 1 else 0) := by
      by_cases z : p n = true
      · rw [if_pos z, if_pos (hn z)]; exact Nat.le_refl _
      · rw [if_neg z]; exact Nat.zero_le _
    refine ⟨by omega, ?_⟩
    rintro ⟨k, hk, y1, y2⟩
    by_cases z : k = n
    · subst z
      rw [if_pos y1, if_neg y2]
      omega
    · have := h2 ⟨k, by omega, y1, y2⟩
      omega
theorem crS_up {A : Nat → Nat → Bool} {n p : Nat} (hA : ∀ i, A i i = true) (hp : p < n) (t : Nat) {i : Nat} (h : (crS A n p t).testBit i = true) : (crS A n p (t + 1)).testBit i = true := by
  have hi : i < n := by
    rcases Nat.lt_or_ge i n with z | z
    · exact z
    · rw [Nat.testBit_lt_two_pow (Nat.lt_of_lt_of_le (crS_lt hp t) (Nat.pow_le_pow_right (by decide) z))] at h
      cases h
  exact nrS_t.mpr ⟨hi, i, hi, hA i, h⟩
theorem crS_cl {A : Nat → Nat → Bool} {n p : Nat} (hA : ∀ i, A i i = true) (hp : p < n) : ∀ t, crS A n p (t + 1) = crS A n p t ∨ t + 1 ≤ cnt (crS A n p t).testBit n
  | 0 => Or.inr (by
      have h : 0 < cnt (crS A n p 0).testBit n := cnt_pos.mpr ⟨p, hp, Nat.testBit_two_pow_self⟩
      omega)
  | t + 1 => by
    rcases crS_cl hA hp t with h | h
    · left
      show nrS A n (crS A n p (t + 1)) = nrS A n (crS A n p t)
      rw [h]
    · have hm := cnt_lt (p := (crS A n p t).testBit) (q := (crS A n p (t + 1)).testBit) (n := n) fun k _ hk => crS_up hA hp t hk
      by_cases z : ∃ k, k < n ∧ (crS A n p (t + 1)).testBit k = true ∧ ¬ (crS A n p t).testBit k = true
      · right
        have := hm.2 z
        omega
      · left
        have e : crS A n p (t + 1) = crS A n p t := Nat.eq_of_testBit_eq fun i => by
          rw [Bool.eq_iff_iff]
          refine ⟨fun y => ?_, crS_up hA hp t⟩
          by_cases x : (crS A n p t).testBit i = true
          · exact x
          · exact absurd ⟨i, (nrS_t.mp y).1, y, x⟩ z
        show nrS A n (crS A n p (t + 1)) = nrS A n (crS A n p t)
        rw [e]
theorem crS_6 {A : Nat → Nat → Bool} {n p : Nat} (hA : ∀ i, A i i = true) (hp : p < n) (hn : n ≤ 6) {i q : Nat} (hi : i < n) (hq : q < n) (h : A i q = true) (hs : (crS A n p 6).testBit q = true) : (crS A n p 6).testBit i = true := by
  have e : crS A n p (6 + 1) = crS A n p 6 := by
    rcases crS_cl hA hp 6 with z | z
    · exact z
    · have := cnt_le (crS A n p 6).testBit n
      omega
  rw [← e]
  exact nrS_t.mpr ⟨hi, q, hq, h, hs⟩
theorem crS_0 {A : Nat → Nat → Bool} {n p : Nat} (hA : ∀ i, A i i = true) (hp : p < n) {i : Nat} (h : (2 ^ p).testBit i = true) : (crS A n p 6).testBit i = true := crS_up hA hp 5 (crS_up hA hp 4 (crS_up hA hp 3 (crS_up hA hp 2 (crS_up hA hp 1 (crS_up hA hp 0 h)))))
/-- near -/
def apB (v : eV) (g i q : Nat) : Bool := decide (apa (peB v i) (peB v q) ≤ g)
theorem apB_r (v : eV) (g i : Nat) : apB v g i i = true := decide_eq_true (by unfold apa; omega)
theorem apB_c (v : eV) (g i q : Nat) : apB v g i q = apB v g q i := by unfold apB; rw [apa_c]
def blP (v : eV) (g p : Nat) : Nat := smN (fun p => cnt (fun r => apB v g p r) p) p
def blM (v : eV) (g : Nat) : Nat → Nat
  | 0 => 0
  | p + 1 => max (blM v g p) (pcN (crS (apB v g) (nP v) p 6))
theorem blM_le (v : eV) (g : Nat) : ∀ p, blM v g p ≤ 64
  | 0 => Nat.zero_le _
  | p + 1 => by
    have h1 := blM_le v g p
    have h2 := pcN_le (crS (apB v g) (nP v) p 6)
    show max _ _ ≤ 64
    omega
theorem blP_le (v : eV) (g p : Nat) (hp : p ≤ 6) : blP v g p ≤ 36 := by
  have h : ∀ n, n ≤ 6 → smN (fun p => cnt (fun r => apB v g p r) p) n ≤ n * 6 := by
    intro n
    induction n with
    | zero => intro _; exact Nat.zero_le _
    | succ n ih =>
      intro hn
      have h1 := ih (by omega)
      have h2 := cnt_le (fun r => apB v g n r) n
      show smN _ n + cnt (fun r => apB v g n r) n ≤ _
      omega
  have := h p hp
  unfold blP
  omega
def sp_blind (v : eV) (g w : Int32) : Int32 := if inN g 181 = true then (if inN w 2 = true then nI (if w = 0 then blP v g.toNatClampNeg (nP v) else blM v g.toNatClampNeg (nP v)) else -1) else -1
theorem two_cnt {A : Nat → Nat → Bool} (hA : ∀ i, A i i = true) (hc : ∀ i q, A i q = A q i) : ∀ n, smN (fun p => cnt (fun i => A i p) n - 1) n = 2 * smN (fun p => cnt (fun r => A p r) p) n
  | 0 => rfl
  | n + 1 => by
    have ih := two_cnt hA hc n
    have e1 : ∀ k, k ≤ n → smN (fun p => cnt (fun i => A i p) (n + 1) - 1) k = smN (fun p => cnt (fun i => A i p) n - 1) k + cnt (fun p => A n p) k := by
      intro k
      induction k with
      | zero => intro _; rfl
      | succ k ih2 =>
        intro hk
        have h1 := ih2 (by omega)
        have h2 : 0 < cnt (fun i => A i k) n := cnt_pos.mpr ⟨k, by omega, hA k⟩
        show smN _ k + (cnt (fun i => A i k) n + (if A n k = true then 1 else 0) - 1) = smN _ k + (cnt (fun i => A i k) n - 1) + (cnt (fun p => A n p) k + (if A n k = true then 1 else 0))
        omega
    have e2 : cnt (fun i => A i n) (n + 1) - 1 = cnt (fun r => A n r) n := by
      show cnt (fun i => A i n) n + (if A n n = true then 1 else 0) - 1 = _
      rw [if_pos (hA n), Nat.add_sub_cancel]
      exact cnt_c fun k _ => hc k n
    show smN (fun p => cnt (fun i => A i p) (n + 1) - 1) n + (cnt (fun i => A i n) (n + 1) - 1) = 2 * (smN (fun p => cnt (fun r => A p r) p) n + cnt (fun r => A n r) n)
    rw [e1 n (Nat.le_refl _), e2, ih]
    omega
theorem pcN_n {S n : Nat} (hn : n ≤ 64) (h : S < 2 ^ n) : pcN S = cnt S.testBit n := by
  unfold pcN
  obtain ⟨r, hr⟩ : ∃ r, 64 = n + r := ⟨64 - n, by omega⟩
  rw [hr, cnt_a, cnt_f (p := fun k => S.testBit (n + k)) fun k _ => Nat.testBit_lt_two_pow (Nat.lt_of_lt_of_le h (Nat.pow_le_pow_right (n := 2) (by decide) (by omega)))]
  rfl
theorem pc_near {A : Nat → Nat → Bool} {n p : Nat} (hn : n ≤ 6) (hp : p < n) : pcN (nrS A n (2 ^ p)) = cnt (fun i => A i p) n := by
  have hl : nrS A n (2 ^ p) < 2 ^ n := mkN_lt _ _
  rw [pcN_n (n := n) (by omega) hl]
  refine cnt_c fun i hi => ?_
  rw [Bool.eq_iff_iff, nrS_t]
  constructor
  · rintro ⟨_, q, _, h1, h2⟩
    rw [Nat.testBit_two_pow, decide_eq_true_iff] at h2
    rw [h2]; exact h1
  · intro h
    exact ⟨hi, p, hp, h, Nat.testBit_two_pow_self⟩
