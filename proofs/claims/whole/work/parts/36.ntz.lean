/-! ===== Integer.numberOfTrailingZeros of small sets ===== -/
def nt62 (x0 x1 : Int32) : Int32 := if x0 ≤ (4 : Int32) then x1 + ((x0.toUInt32 >>> ((1 : Int32).toUInt32 &&& Int32.toUInt32 31)).toInt32) else (x1 + (2 : Int32)) + ((((x0.toUInt32 >>> ((2 : Int32).toUInt32 &&& Int32.toUInt32 31)).toInt32).toUInt32 >>> ((1 : Int32).toUInt32 &&& Int32.toUInt32 31)).toInt32)
def nt34b (v x1 : Int32) : Int32 := if v ≤ (16 : Int32) then nt62 v (x1 + (8 : Int32)) else nt62 ((v.toUInt32 >>> ((4 : Int32).toUInt32 &&& Int32.toUInt32 31)).toInt32) ((x1 + (8 : Int32)) + (4 : Int32))
def nt34 (x0 x1 : Int32) : Int32 := if x0 ≤ (256 : Int32) then (if x0 ≤ (16 : Int32) then nt62 x0 x1 else nt62 ((x0.toUInt32 >>> ((4 : Int32).toUInt32 &&& Int32.toUInt32 31)).toInt32) (x1 + (4 : Int32))) else nt34b ((x0.toUInt32 >>> ((8 : Int32).toUInt32 &&& Int32.toUInt32 31)).toInt32) x1
def ntb (v1 : Int32) : Int32 := if 0 < v1 then (if v1 ≤ (65536 : Int32) then nt34 v1 (1 : Int32) else nt34 ((v1.toUInt32 >>> ((16 : Int32).toUInt32 &&& Int32.toUInt32 31)).toInt32) ((1 : Int32) + (16 : Int32))) else v1 &&& (32 : Int32)
def ntI (x : Int32) : Int32 := ntb ((x ^^^ (-1 : Int32)) &&& (x - (1 : Int32)))
theorem In_62_s (d : Nat) (x0 x1 : Int32) (m : eM) : In_numberOfTrailingZeros_62 d x0 x1 m = yI (nt62 x0 x1) m := by
  rw [In_numberOfTrailingZeros_62_e]
  unfold nt62
  by_cases h : x0 ≤ (4 : Int32)
  · rw [if_pos h, if_pos h]
  · rw [if_neg h, if_neg h, lI_u]
theorem In_34_s (d : Nat) (x0 x1 : Int32) (m : eM) : In_numberOfTrailingZeros_34 d x0 x1 m = yI (nt34 x0 x1) m := by
  rw [In_numberOfTrailingZeros_34_e]
  unfold nt34
  by_cases h : x0 ≤ (256 : Int32)
  · rw [if_pos h, if_pos h]
    by_cases h2 : x0 ≤ (16 : Int32)
    · rw [if_pos h2, if_pos h2, In_62_s]
    · rw [if_neg h2, if_neg h2, lI_u, In_62_s]
  · rw [if_neg h, if_neg h, lI_u]
    unfold nt34b
    by_cases h2 : ((x0.toUInt32 >>> ((8 : Int32).toUInt32 &&& Int32.toUInt32 31)).toInt32) ≤ (16 : Int32)
    · rw [if_pos h2, if_pos h2, In_62_s]
    · rw [if_neg h2, if_neg h2, lI_u, In_62_s]
theorem In_ntz_s (d : Nat) (x : Int32) (m : eM) : In_numberOfTrailingZeros d x m = yI (ntI x) m := by
  rw [In_numberOfTrailingZeros_e, lI_u]
  unfold ntI ntb
  by_cases h : 0 < ((x ^^^ (-1 : Int32)) &&& (x - (1 : Int32)))
  · rw [if_pos h, if_pos h]
    by_cases h2 : ((x ^^^ (-1 : Int32)) &&& (x - (1 : Int32))) ≤ (65536 : Int32)
    · rw [if_pos h2, if_pos h2, In_34_s]
    · rw [if_neg h2, if_neg h2, lI_u, In_34_s]
  · rw [if_neg h, if_neg h]
/-- the lowest bit -/
def lobF (n : Nat) : Nat → Nat → Nat
  | 0, k => k
  | f + 1, k => if n.testBit k = true then k else lobF n f (k + 1)
def lob (n : Nat) : Nat := lobF n 12 0
theorem lob_64 : ∀ i, i < 64 → ∀ j, j < 64 → 64 * i + j = 0 ∨ (ntI (nI (64 * i + j)) = nI (lob (64 * i + j)) ∧ (64 * i + j).testBit (lob (64 * i + j)) = true ∧ (64 * i + j) &&& (64 * i + j - 1) = (64 * i + j) ^^^ 2 ^ lob (64 * i + j) ∧ (64 * i + j) ^^^ 2 ^ lob (64 * i + j) < 64 * i + j) := by decide +kernel
theorem lob_s {n : Nat} (h0 : 0 < n) (hn : n < 4096) : ntI (nI n) = nI (lob n) ∧ n.testBit (lob n) = true ∧ n &&& (n - 1) = n ^^^ 2 ^ lob n ∧ n ^^^ 2 ^ lob n < n := by
  have := lob_64 (n / 64) (by omega) (n % 64) (by omega)
  rw [show 64 * (n / 64) + n % 64 = n by omega] at this
  rcases this with z | z
  · omega
  · exact z
