/-! ===== the tokens of a tape ===== -/
def ski (p : Nat → Bool) : Nat → Nat → Nat
  | 0, i => i
  | k + 1, i => if p i = true then ski p k (i + 1) else i
/-- the first place from i on that isn't p, or the tape's end -/
def sk_ (s : eTp) (p : Nat → Bool) (i : Nat) : Nat := ski p (s.1 - i) i
theorem skY {s : eTp} {p : Nat → Bool} {i : Nat} (h : i < s.1) (hp : p i = true) : sk_ s p i = sk_ s p (i + 1) := by
  unfold sk_
  rw [show s.1 - i = s.1 - (i + 1) + 1 by omega]
  show (if p i = true then ski p (s.1 - (i + 1)) (i + 1) else i) = _
  rw [if_pos hp]
theorem skN {s : eTp} {p : Nat → Bool} {i : Nat} (h : ¬ (i < s.1 ∧ p i = true)) : sk_ s p i = i := by
  unfold sk_
  cases z : s.1 - i with
  | zero => rfl
  | succ k =>
    show (if p i = true then ski p k (i + 1) else i) = i
    rw [if_neg (fun q => h ⟨by omega, q⟩)]
theorem ski_le (p : Nat → Bool) : ∀ k i, i ≤ ski p k i ∧ ski p k i ≤ i + k
  | 0, i => ⟨Nat.le_refl _, Nat.le_refl _⟩
  | k + 1, i => by
    show i ≤ (if p i = true then ski p k (i + 1) else i) ∧ (if p i = true then ski p k (i + 1) else i) ≤ i + (k + 1)
    by_cases z : p i = true
    · rw [if_pos z]
      have := ski_le p k (i + 1)
      omega
    · rw [if_neg z]; omega
theorem sk_le (s : eTp) (p : Nat → Bool) (i : Nat) : i ≤ sk_ s p i := (ski_le p _ i).1
theorem sk_t {s : eTp} {p : Nat → Bool} {i : Nat} (h : i ≤ s.1) : sk_ s p i ≤ s.1 := by
  have := (ski_le p (s.1 - i) i).2
  unfold sk_
  omega
theorem sk_lt {s : eTp} {p : Nat → Bool} {i : Nat} (h : i < s.1) (hp : p i = true) : i < sk_ s p i := by
  rw [skY h hp]
  exact sk_le s p (i + 1)
theorem sk_all {s : eTp} {p : Nat → Bool} : ∀ k i, k = s.1 - i → ∀ j, i ≤ j → j < sk_ s p i → p j = true ∧ j < s.1
  | 0, i, e, j, h1, h2 => by
    rw [skN (fun q => by omega)] at h2
    omega
  | k + 1, i, e, j, h1, h2 => by
    by_cases z : p i = true
    · by_cases y : j = i
      · rw [y]; exact ⟨z, by omega⟩
      · rw [skY (by omega) z] at h2
        exact sk_all k (i + 1) (by omega) j (by omega) h2
    · rw [skN (fun q => z q.2)] at h2
      omega
def blk (s : eTp) (i : Nat) : Bool := decide (s.2 i = 10) || decide (s.2 i = 32)
def ltr (s : eTp) (i : Nat) : Bool := decide (97 ≤ s.2 i) && decide (s.2 i ≤ 122)
def dig (s : eTp) (i : Nat) : Bool := decide (48 ≤ s.2 i) && decide (s.2 i ≤ 57)
theorem blk_i {s : eTp} {i : Nat} : blk s i = true ↔ s.2 i = 10 ∨ s.2 i = 32 := by
  unfold blk
  rw [Bool.or_eq_true, decide_eq_true_iff, decide_eq_true_iff]
theorem ltr_i {s : eTp} {i : Nat} : ltr s i = true ↔ 97 ≤ s.2 i ∧ s.2 i ≤ 122 := by
  unfold ltr
  rw [Bool.and_eq_true, decide_eq_true_iff, decide_eq_true_iff]
theorem dig_i {s : eTp} {i : Nat} : dig s i = true ↔ 48 ≤ s.2 i ∧ s.2 i ≤ 57 := by
  unfold dig
  rw [Bool.and_eq_true, decide_eq_true_iff, decide_eq_true_iff]
/-- where the token begins that is found from b on -/
def tB (s : eTp) (b : Nat) : Nat := sk_ s (blk s) b
def tE (s : eTp) (b : Nat) : Nat := sk_ s (ltr s) (tB s b)
def tD (s : eTp) (b : Nat) : Nat := sk_ s (dig s) (tB s b)
/-- its kind: 0 end, 1 too long, 2 word, 3 number, 4 sign -/
def tK (s : eTp) (b : Nat) : Nat := if s.1 ≤ tB s b then 0 else if ltr s (tB s b) = true then (if tE s b - tB s b ≤ 8 then 2 else 1) else if dig s (tB s b) = true then (if tD s b - tB s b ≤ 4 then 3 else 1) else 4
/-- where the next one is looked for -/
def tX (s : eTp) (b : Nat) : Nat := if s.1 ≤ tB s b then tB s b else if ltr s (tB s b) = true then tE s b else if dig s (tB s b) = true then tD s b else tB s b + 1
def wf (B o : Nat) (s : eTp) : Nat → Nat → Nat → Nat
  | 0, _, a => a
  | k + 1, i, a => wf B o s k (i + 1) (a * B + (s.2 i - o))
def tW (s : eTp) (b : Nat) : Nat := wf 27 96 s (tE s b - tB s b) (tB s b) 0
def tN (s : eTp) (b : Nat) : Nat := wf 10 48 s (tD s b - tB s b) (tB s b) 0
def tS (s : eTp) (b : Nat) : Nat := s.2 (tB s b)
theorem tB_le {s : eTp} {b : Nat} (h : b ≤ s.1) : b ≤ tB s b ∧ tB s b ≤ s.1 := ⟨sk_le _ _ _, sk_t h⟩
theorem tX_le {s : eTp} {b : Nat} (h : b ≤ s.1) : tB s b ≤ tX s b ∧ tX s b ≤ s.1 := by
  have h1 := tB_le h
  have h2 := sk_le s (ltr s) (tB s b)
  have h3 := sk_t (s := s) (p := ltr s) h1.2
  have h4 := sk_le s (dig s) (tB s b)
  have h5 := sk_t (s := s) (p := dig s) h1.2
  unfold tX tE tD
  by_cases z : s.1 ≤ tB s b
  · rw [if_pos z]; omega
  · rw [if_neg z]
    by_cases y : ltr s (tB s b) = true
    · rw [if_pos y]; omega
    · rw [if_neg y]
      by_cases x : dig s (tB s b) = true
      · rw [if_pos x]; omega
      · rw [if_neg x]; omega
theorem tX_lt {s : eTp} {b : Nat} (h : tK s b ≠ 0) : tB s b < tX s b ∧ tB s b < s.1 := by
  have z : ¬ s.1 ≤ tB s b := fun q => h (by unfold tK; rw [if_pos q])
  refine ⟨?_, by omega⟩
  unfold tX tE tD
  rw [if_neg z]
  by_cases y : ltr s (tB s b) = true
  · rw [if_pos y]; exact sk_lt (by omega) y
  · rw [if_neg y]
    by_cases x : dig s (tB s b) = true
    · rw [if_pos x]; exact sk_lt (by omega) x
    · rw [if_neg x]; omega
theorem tX_0 {s : eTp} {b : Nat} (h : tK s b = 0) (hb : b ≤ s.1) : tB s b = s.1 ∧ tX s b = s.1 := by
  have h1 := tB_le hb
  have z : s.1 ≤ tB s b := by
    by_cases z : s.1 ≤ tB s b
    · exact z
    · exfalso
      unfold tK at h
      rw [if_neg z] at h
      by_cases y : ltr s (tB s b) = true
      · rw [if_pos y] at h
        split at h <;> omega
      · rw [if_neg y] at h
        by_cases x : dig s (tB s b) = true
        · rw [if_pos x] at h
          split at h <;> omega
        · rw [if_neg x] at h
          omega
  unfold tX
  rw [if_pos z]
  omega
/-! words in base 27 and in base 256 -/
theorem w8_s (f n : Nat) : w8 (f + 1) n = if n = 0 then 0 else w8 f (n / 27) * 256 + (n % 27 + 96) := rfl
theorem w8_0 : ∀ f, w8 f 0 = 0
  | 0 => rfl
  | f + 1 => rfl
theorem w8_up : ∀ f n, n < 27 ^ f → w8 (f + 1) n = w8 f n
  | 0, n, h => by
    have : n = 0 := by simpa using h
    rw [this]; rfl
  | f + 1, n, h => by
    by_cases z : n = 0
    · rw [z, w8_0, w8_0]
    · rw [w8_s (f + 1) n, w8_s f n, if_neg z, if_neg z, w8_up f (n / 27) (Nat.div_lt_of_lt_mul (by rw [Nat.pow_succ, Nat.mul_comm] at h; exact h))]
theorem w8_8 {f n : Nat} (h : n < 27 ^ f) (hf : f ≤ 8) : w8 8 n = w8 f n := by
  have : ∀ j, w8 (f + j) n = w8 f n := fun j => by
    induction j with
    | zero => rfl
    | succ j ih =>
      rw [← ih]
      exact w8_up (f + j) n (Nat.lt_of_lt_of_le h (Nat.pow_le_pow_right (by decide) (by omega)))
  have e := this (8 - f)
  rw [show f + (8 - f) = 8 by omega] at e
  exact e
theorem w8_lt : ∀ f n, w8 f n < 256 ^ f
  | 0, n => (by decide : 0 < 1)
  | f + 1, n => by
    rw [w8_s]
    by_cases z : n = 0
    · rw [if_pos z]; exact Nat.pow_pos (by decide)
    · rw [if_neg z, Nat.pow_succ]
      have h1 := w8_lt f (n / 27)
      have h2 := Nat.mod_lt n (show 27 > 0 by decide)
      omega
/-- back -/
def v27 : Nat → Nat → Nat
  | 0, _ => 0
  | f + 1, m => if m = 0 then 0 else v27 f (m / 256) * 27 + (m % 256 - 96)
theorem v27_w8 : ∀ f n, n < 27 ^ f → v27 f (w8 f n) = n
  | 0, n, h => by
    have : n = 0 := by simpa using h
    rw [this]; rfl
  | f + 1, n, h => by
    by_cases z : n = 0
    · rw [z, w8_0]; rfl
    · have h2 := Nat.mod_lt n (show 27 > 0 by decide)
      have ih := v27_w8 f (n / 27) (Nat.div_lt_of_lt_mul (by rw [Nat.pow_succ, Nat.mul_comm] at h; exact h))
      rw [w8_s, if_neg z]
      show (if w8 f (n / 27) * 256 + (n % 27 + 96) = 0 then 0 else v27 f ((w8 f (n / 27) * 256 + (n % 27 + 96)) / 256) * 27 + ((w8 f (n / 27) * 256 + (n % 27 + 96)) % 256 - 96)) = n
      rw [if_neg (by omega), show (w8 f (n / 27) * 256 + (n % 27 + 96)) / 256 = w8 f (n / 27) by omega, show (w8 f (n / 27) * 256 + (n % 27 + 96)) % 256 = n % 27 + 96 by omega, ih]
      omega
theorem lN_inj {a b : Nat} (ha : a < 2 ^ 64) (hb : b < 2 ^ 64) (h : lN a = lN b) : a = b := by
  have e : (lN a).toBitVec.toNat = (lN b).toBitVec.toNat := by rw [h]
  have e : (BitVec.ofNat 64 a).toNat = (BitVec.ofNat 64 b).toNat := e
  rw [BitVec.toNat_ofNat, BitVec.toNat_ofNat, Nat.mod_eq_of_lt ha, Nat.mod_eq_of_lt hb] at e
  exact e
theorem nm8_i {a b : Nat} (ha : a < 27 ^ 8) (hb : b < 27 ^ 8) : nm8 a = nm8 b ↔ a = b := by
  constructor
  · intro h
    have h1 := w8_lt 8 a
    have h2 := w8_lt 8 b
    have e := lN_inj (by omega) (by omega) h
    rw [← v27_w8 8 a ha, ← v27_w8 8 b hb, e]
  · intro h; rw [h]
theorem lN_i27 {a b : Nat} (ha : a < 27 ^ 8) (hb : b < 27 ^ 8) : lN a = lN b ↔ a = b := ⟨fun h => lN_inj (Nat.lt_trans ha (by decide)) (Nat.lt_trans hb (by decide)) h, fun h => by rw [h]⟩
theorem wf_w8 (s : eTp) : ∀ k i f a, f + k ≤ 8 → a < 27 ^ f → (∀ j, i ≤ j → j < i + k → ltr s j = true) → wf 256 0 s k i (w8 f a) = w8 (f + k) (wf 27 96 s k i a) ∧ wf 27 96 s k i a < 27 ^ (f + k)
  | 0, i, f, a, hf, ha, hl => ⟨rfl, ha⟩
  | k + 1, i, f, a, hf, ha, hl => by
    have h1 := ltr_i.mp (hl i (Nat.le_refl _) (by omega))
    have h2 : a * 27 + (s.2 i - 96) < 27 ^ (f + 1) := by
      rw [Nat.pow_succ]
      omega
    obtain ⟨e1, e2⟩ := wf_w8 s k (i + 1) (f + 1) (a * 27 + (s.2 i - 96)) (by omega) h2 (fun j q1 q2 => hl j (by omega) (by omega))
    rw [show f + 1 + k = f + (k + 1) by omega] at e1 e2
    refine ⟨?_, e2⟩
    show wf 256 0 s k (i + 1) (w8 f a * 256 + (s.2 i - 0)) = w8 (f + (k + 1)) (wf 27 96 s k (i + 1) (a * 27 + (s.2 i - 96)))
    rw [← e1, w8_s, if_neg (by omega), show (a * 27 + (s.2 i - 96)) / 27 = a by omega, show (a * 27 + (s.2 i - 96)) % 27 + 96 = s.2 i - 0 by omega]
theorem tW_w8 {s : eTp} {b : Nat} (h : tK s b = 2) : wf 256 0 s (tE s b - tB s b) (tB s b) 0 = w8 8 (tW s b) ∧ tW s b < 27 ^ 8 := by
  have hk : tE s b - tB s b ≤ 8 := by
    unfold tK at h
    split at h
    · omega
    · split at h
      · split at h
        · assumption
        · omega
      · split at h
        · split at h <;> omega
        · omega
  obtain ⟨e1, e2⟩ := wf_w8 s (tE s b - tB s b) (tB s b) 0 0 (by omega) (by decide) (fun j q1 q2 => (sk_all (s := s) (p := ltr s) _ (tB s b) rfl j q1 (by unfold tE at q2; have := sk_le s (ltr s) (tB s b); omega)).1)
  rw [Nat.zero_add] at e1 e2
  refine ⟨?_, Nat.lt_of_lt_of_le e2 (Nat.pow_le_pow_right (by decide) hk)⟩
  unfold tW
  rw [w8_8 e2 hk]
  exact e1
theorem wf_lt (B o : Nat) (s : eTp) (hB : ∀ i, s.2 i - o < B) : ∀ k i f a, a < B ^ f → wf B o s k i a < B ^ (f + k)
  | 0, i, f, a, ha => ha
  | k + 1, i, f, a, ha => by
    have h2 : a * B + (s.2 i - o) < B ^ (f + 1) := by
      rw [Nat.pow_succ]
      have := hB i
      have := Nat.mul_le_mul_right B (show a + 1 ≤ B ^ f from ha)
      rw [Nat.add_mul, Nat.one_mul] at this
      omega
    have := wf_lt B o s hB k (i + 1) (f + 1) _ h2
    rw [show f + (k + 1) = f + 1 + k by omega]
    exact this
