/-! ===== bits of ints and longs (the first lemmas began from kit/laws/BITS.to-paste) ===== -/
def bt (x : Int32) (i : Nat) : Bool := x.toBitVec.getLsbD i
theorem b_ext {x y : Int32} (h : ∀ i, i < 32 → bt x i = bt y i) : x = y := Int32.toBitVec_inj.mp (BitVec.eq_of_getLsbD_eq (fun i hi => h i hi))
theorem b_or (x y : Int32) (i : Nat) : bt (x ||| y) i = (bt x i || bt y i) := by unfold bt; rw [Int32.toBitVec_or, BitVec.getLsbD_or]
theorem b_and (x y : Int32) (i : Nat) : bt (x &&& y) i = (bt x i && bt y i) := by unfold bt; rw [Int32.toBitVec_and, BitVec.getLsbD_and]
theorem b_xor (x y : Int32) (i : Nat) : bt (x ^^^ y) i = (bt x i ^^ bt y i) := by unfold bt; rw [Int32.toBitVec_xor, BitVec.getLsbD_xor]
theorem b_big {x : Int32} {i : Nat} (h : 32 ≤ i) : bt x i = false := BitVec.getLsbD_of_ge _ _ h
theorem b_0 (i : Nat) : bt 0 i = false := BitVec.getLsbD_zero
theorem s_l : ∀ n, n < 32 → ((nI n &&& 31).toBitVec.smod 32).toNat = n := by decide +kernel
theorem b_shl (n : Nat) (hn : n < 32) (x : Int32) {i : Nat} (hi : i < 32) : bt (x <<< (nI n &&& 31)) i = (decide (n ≤ i) && bt x (i - n)) := by
  unfold bt
  rw [Int32.toBitVec_shiftLeft]
  show (x.toBitVec <<< ((nI n &&& 31).toBitVec.smod 32).toNat).getLsbD i = _
  rw [s_l n hn, BitVec.getLsbD_shiftLeft]
  rcases Nat.lt_or_ge i n with h | h
  · simp [h, Nat.not_le.mpr h]
  · simp [hi, h, Nat.not_lt.mpr h]
theorem b_sshr (n : Nat) (hn : n < 32) (x : Int32) {i : Nat} (hi : i < 32) : bt (x >>> (nI n &&& 31)) i = if n + i < 32 then bt x (n + i) else bt x 31 := by
  unfold bt
  rw [Int32.toBitVec_shiftRight]
  show (x.toBitVec.sshiftRight ((nI n &&& 31).toBitVec.smod 32).toNat).getLsbD i = _
  rw [s_l n hn, BitVec.getLsbD_sshiftRight]
  rcases Nat.lt_or_ge (n + i) 32 with h | h
  · simp [hi, h]
  · simp [hi, Nat.not_lt.mpr h, BitVec.msb_eq_getLsbD_last]
def tb (x : Int64) (i : Nat) : Bool := x.toBitVec.getLsbD i
theorem t_ext {x y : Int64} (h : ∀ i, i < 64 → tb x i = tb y i) : x = y := Int64.toBitVec_inj.mp (BitVec.eq_of_getLsbD_eq (fun i hi => h i hi))
theorem t_or (x y : Int64) (i : Nat) : tb (x ||| y) i = (tb x i || tb y i) := by unfold tb; rw [Int64.toBitVec_or, BitVec.getLsbD_or]
theorem t_and (x y : Int64) (i : Nat) : tb (x &&& y) i = (tb x i && tb y i) := by unfold tb; rw [Int64.toBitVec_and, BitVec.getLsbD_and]
theorem t_xor (x y : Int64) (i : Nat) : tb (x ^^^ y) i = (tb x i ^^ tb y i) := by unfold tb; rw [Int64.toBitVec_xor, BitVec.getLsbD_xor]
theorem t_big {x : Int64} {i : Nat} (h : 64 ≤ i) : tb x i = false := BitVec.getLsbD_of_ge _ _ h
theorem t_0 (i : Nat) : tb 0 i = false := BitVec.getLsbD_zero
theorem t_m1 : ∀ i, i < 64 → tb (-1) i = true := by decide +kernel
theorem t_1 : ∀ i, i < 64 → tb 1 i = decide (i = 0) := by decide +kernel
theorem t_not {x : Int64} {i : Nat} (hi : i < 64) : tb (x ^^^ (-1)) i = !tb x i := by rw [t_xor, t_m1 i hi, Bool.xor_true]
theorem t_le {x : Int64} {i : Nat} (h : tb x i = true) : i < 64 := by
  rcases Nat.lt_or_ge i 64 with z | z
  · exact z
  · rw [t_big z] at h; cases h
theorem s_L : ∀ n, n < 64 → (((nI n).toInt64 &&& 63).toBitVec.smod 64).toNat = n := by decide +kernel
theorem s_U : ∀ n, n < 64 → (((nI n).toInt64.toUInt64 &&& Int64.toUInt64 63).toBitVec % 64).toNat = n := by decide +kernel
theorem t_shl {n : Nat} (hn : n < 64) (x : Int64) {i : Nat} (hi : i < 64) : tb (x <<< ((nI n).toInt64 &&& 63)) i = (decide (n ≤ i) && tb x (i - n)) := by
  unfold tb
  rw [Int64.toBitVec_shiftLeft]
  show (x.toBitVec <<< (((nI n).toInt64 &&& 63).toBitVec.smod 64).toNat).getLsbD i = _
  rw [s_L n hn, BitVec.getLsbD_shiftLeft]
  rcases Nat.lt_or_ge i n with h | h
  · simp [h, Nat.not_le.mpr h]
  · simp [hi, h, Nat.not_lt.mpr h]
theorem t_sshr {n : Nat} (hn : n < 64) (x : Int64) {i : Nat} (hi : i < 64) : tb (x >>> ((nI n).toInt64 &&& 63)) i = if n + i < 64 then tb x (n + i) else tb x 63 := by
  unfold tb
  rw [Int64.toBitVec_shiftRight]
  show (x.toBitVec.sshiftRight (((nI n).toInt64 &&& 63).toBitVec.smod 64).toNat).getLsbD i = _
  rw [s_L n hn, BitVec.getLsbD_sshiftRight]
  rcases Nat.lt_or_ge (n + i) 64 with h | h
  · simp [hi, h]
  · simp [hi, Nat.not_lt.mpr h, BitVec.msb_eq_getLsbD_last]
theorem t_ushr {n : Nat} (hn : n < 64) (x : Int64) (i : Nat) : tb ((x.toUInt64 >>> ((nI n).toInt64.toUInt64 &&& Int64.toUInt64 63)).toInt64) i = tb x (n + i) := by
  show (x.toUInt64 >>> ((nI n).toInt64.toUInt64 &&& Int64.toUInt64 63)).toBitVec.getLsbD i = x.toUInt64.toBitVec.getLsbD (n + i)
  rw [UInt64.toBitVec_shiftRight]
  show (x.toUInt64.toBitVec >>> (((nI n).toInt64.toUInt64 &&& Int64.toUInt64 63).toBitVec % 64).toNat).getLsbD i = _
  rw [s_U n hn, BitVec.getLsbD_ushiftRight]
theorem t_1shl {n : Nat} (hn : n < 64) {i : Nat} (hi : i < 64) : tb ((1 : Int64) <<< ((nI n).toInt64 &&& 63)) i = decide (i = n) := by
  rw [t_shl hn _ hi, t_1 _ (by omega), ← Bool.decide_and]
  exact decide_eq_decide.mpr ⟨fun h => by omega, fun h => by omega⟩
/-- one bit, as class and reference test it -/
theorem cmp0 (x y : Int64) : lg_cmp x y = 0 ↔ x = y := by
  unfold lg_cmp
  constructor
  · intro h
    split at h
    · exact absurd h (by decide)
    · split at h
      · assumption
      · exact absurd h (by decide)
  · intro h
    subst h
    rw [if_neg (by show ¬ x < x; exact Int64.lt_irrefl), if_pos rfl]
theorem and1 (x : Int64) : x &&& 1 = if tb x 0 = true then 1 else 0 := by
  apply t_ext
  intro i hi
  rw [t_and, t_1 i hi]
  by_cases h : tb x 0 = true
  · rw [if_pos h, t_1 i hi]
    by_cases h0 : i = 0
    · subst h0; rw [h]; rfl
    · rw [decide_eq_false h0, Bool.and_false]
  · rw [if_neg h, t_0]
    by_cases h0 : i = 0
    · subst h0; rw [Bool.not_eq_true] at h; rw [h]; rfl
    · rw [decide_eq_false h0, Bool.and_false]
theorem one0L : ¬ (1 : Int64) = 0 := by decide
theorem bit_u {n : Nat} (hn : n < 64) (x : Int64) : (((x.toUInt64 >>> ((nI n).toInt64.toUInt64 &&& Int64.toUInt64 63)).toInt64) &&& (1 : Int64)) = if tb x n = true then 1 else 0 := by
  rw [and1, t_ushr hn, Nat.add_zero]
theorem bit_s {n : Nat} (hn : n < 64) (x : Int64) : (x >>> ((nI n).toInt64 &&& 63)) &&& (1 : Int64) = if tb x n = true then 1 else 0 := by
  rw [and1, t_sshr hn _ (by decide), if_pos (show n + 0 < 64 by omega), Nat.add_zero]
/-! ===== the answers that are true or false ===== -/
def bb (c : Bool) : Int32 := if c = true then 1 else 0
theorem bb_0 (c : Bool) : (bb c = 0) = (c = false) := propext (by cases c <;> decide)
theorem bb_1 (c : Bool) : (bb c = 1) = (c = true) := propext (by cases c <;> decide)
theorem bb_t : bb true = 1 := rfl
theorem bb_f : bb false = 0 := rfl
theorem bb_i (a b : Bool) : (bb a = bb b) = (a = b) := propext (by cases a <;> cases b <;> decide)
theorem yB_bb (c : Bool) (m : eM) : yB (bb c) m = yI (bb c) m := by cases c <;> rfl
theorem bb_if (c : Prop) {q : Decidable c} : (@ite _ c q (1 : Int32) 0) = bb (decide c) := by
  by_cases h : c
  · rw [if_pos h, decide_eq_true h]; rfl
  · rw [if_neg h, decide_eq_false h]; rfl
/-! ===== sets of worlds ===== -/
def mkB (p : Nat → Bool) : Nat → BitVec 64
  | 0 => 0
  | n + 1 => mkB p n ||| (if p n = true then BitVec.twoPow 64 n else 0)
def mk (p : Nat → Bool) : Int64 := ⟨⟨mkB p 64⟩⟩
theorem mkB_g (p : Nat → Bool) (i : Nat) (hi : i < 64) : ∀ n, (mkB p n).getLsbD i = (decide (i < n) && p i)
  | 0 => by rw [mkB]; simp
  | n + 1 => by
    rw [mkB, BitVec.getLsbD_or, mkB_g p i hi n]
    by_cases h : p n = true
    · rw [if_pos h, BitVec.getLsbD_twoPow]
      by_cases e : i = n
      · subst e; simp [h, hi]
      · have : (i < n + 1) = (i < n) := propext ⟨fun _ => by omega, fun _ => by omega⟩
        simp [this, e, Ne.symm e]
    · rw [if_neg h]
      by_cases e : i = n
      · subst e; simp [h]
      · have : (i < n + 1) = (i < n) := propext ⟨fun _ => by omega, fun _ => by omega⟩
        simp [this]
theorem t_mk (p : Nat → Bool) {i : Nat} (hi : i < 64) : tb (mk p) i = p i := by
  show (mkB p 64).getLsbD i = p i
  rw [mkB_g p i hi 64, decide_eq_true hi, Bool.true_and]
theorem mk_c {p q : Nat → Bool} (h : ∀ i, i < 64 → p i = q i) : mk p = mk q := t_ext fun i hi => by rw [t_mk p hi, t_mk q hi, h i hi]
theorem mk_e {x : Int64} {q : Nat → Bool} (h : ∀ i, i < 64 → tb x i = q i) : x = mk q := t_ext fun i hi => by rw [t_mk q hi, h i hi]
theorem mk_tb (x : Int64) : mk (tb x) = x := (mk_e fun _ _ => rfl).symm
theorem mk_0 : mk (fun _ => false) = 0 := t_ext fun i hi => by rw [t_mk _ hi, t_0]
theorem mk_and (p q : Nat → Bool) : mk p &&& mk q = mk fun i => p i && q i := t_ext fun i hi => by rw [t_and, t_mk _ hi, t_mk _ hi, t_mk _ hi]
theorem mk_or (p q : Nat → Bool) : mk p ||| mk q = mk fun i => p i || q i := t_ext fun i hi => by rw [t_or, t_mk _ hi, t_mk _ hi, t_mk _ hi]
theorem mk_not (p : Nat → Bool) : mk p ^^^ (-1) = mk fun i => !p i := t_ext fun i hi => by rw [t_not hi, t_mk _ hi, t_mk _ hi]
theorem mk_put (p : Nat → Bool) {n : Nat} (hn : n < 64) : mk p ||| ((1 : Int64) <<< ((nI n).toInt64 &&& 63)) = mk fun i => p i || decide (i = n) := t_ext fun i hi => by rw [t_or, t_mk _ hi, t_1shl hn hi, t_mk _ hi]
theorem eq0_iff (x : Int64) : x = 0 ↔ ∀ i, i < 64 → tb x i = false := ⟨fun h i _ => by rw [h, t_0], fun h => t_ext fun i hi => by rw [h i hi, t_0]⟩
/-- all worlds of n facts -/
theorem all_w : ∀ n, n < 6 → (((1 : Int64) <<< (((1 : Int32) <<< ((nI n) &&& 31)).toInt64 &&& 63)) - (1 : Int64)) = mk fun i => decide (i < 2 ^ n) := by decide +kernel
theorem all_6 : (-1 : Int64) = mk fun i => decide (i < 2 ^ 6) := by decide +kernel
/-! ===== bits of small ints ===== -/
theorem shl1 : ∀ n, n < 31 → (1 : Int32) <<< (nI n &&& 31) = nI (2 ^ n) := by decide +kernel
theorem bt_n {n : Nat} (i : Nat) (hn : n < 2 ^ 32) : bt (nI n) i = n.testBit i := by
  show (BitVec.ofNat 32 n).getLsbD i = _
  rw [BitVec.getLsbD_ofNat]
  by_cases h : i < 32
  · simp [h]
  · have : n.testBit i = false := Nat.testBit_lt_two_pow (Nat.lt_of_lt_of_le hn (Nat.pow_le_pow_right (by decide) (by omega)))
    simp [h, this]
theorem and1I (x : Int32) : x &&& 1 = if bt x 0 = true then 1 else 0 := by
  have h1 : ∀ i, i < 32 → bt 1 i = decide (i = 0) := by decide +kernel
  apply b_ext
  intro i hi
  rw [b_and, h1 i hi]
  by_cases h : bt x 0 = true
  · rw [if_pos h, h1 i hi]
    by_cases h0 : i = 0
    · subst h0; rw [h]; rfl
    · rw [decide_eq_false h0, Bool.and_false]
  · rw [if_neg h, b_0]
    by_cases h0 : i = 0
    · subst h0; rw [Bool.not_eq_true] at h; rw [h]; rfl
    · rw [decide_eq_false h0, Bool.and_false]
/-- (n >> k) & 1 -/
theorem bitI {n k : Nat} (hn : n < 2 ^ 32) (hk : k < 32) : (nI n >>> (nI k &&& 31)) &&& (1 : Int32) = bb (n.testBit k) := by
  rw [and1I, b_sshr k hk _ (by decide), if_pos (show k + 0 < 32 by omega), Nat.add_zero, bt_n k hn]
  rfl
theorem andN (a b : Nat) : nI a &&& nI b = nI (a &&& b) := Int32.toBitVec_inj.mp (by
  rw [Int32.toBitVec_and]
  show BitVec.ofNat 32 a &&& BitVec.ofNat 32 b = BitVec.ofNat 32 (a &&& b)
  exact BitVec.ofNat_and.symm)
theorem orN (a b : Nat) : nI a ||| nI b = nI (a ||| b) := Int32.toBitVec_inj.mp (by
  rw [Int32.toBitVec_or]
  show BitVec.ofNat 32 a ||| BitVec.ofNat 32 b = BitVec.ofNat 32 (a ||| b)
  exact BitVec.ofNat_or.symm)
theorem xorN (a b : Nat) : nI a ^^^ nI b = nI (a ^^^ b) := Int32.toBitVec_inj.mp (by
  rw [Int32.toBitVec_xor]
  show BitVec.ofNat 32 a ^^^ BitVec.ofNat 32 b = BitVec.ofNat 32 (a ^^^ b)
  exact BitVec.ofNat_xor.symm)
