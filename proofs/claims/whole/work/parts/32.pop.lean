/-! ===== how many bits ===== -/
def cnt (p : Nat → Bool) : Nat → Nat
  | 0 => 0
  | n + 1 => cnt p n + (if p n = true then 1 else 0)
theorem cnt_c {p q : Nat → Bool} : ∀ {n : Nat}, (∀ k, k < n → p k = q k) → cnt p n = cnt q n
  | 0, _ => rfl
  | n + 1, h => by
    unfold cnt
    rw [cnt_c fun k hk => h k (by omega), h n (by omega)]
theorem cnt_le (p : Nat → Bool) : ∀ n, cnt p n ≤ n
  | 0 => Nat.le_refl _
  | n + 1 => by
    have := cnt_le p n
    unfold cnt
    split <;> omega
theorem cnt_a (p : Nat → Bool) (m : Nat) : ∀ n, cnt p (m + n) = cnt p m + cnt (fun k => p (m + k)) n
  | 0 => rfl
  | n + 1 => by
    show cnt p (m + n) + _ = _ + (cnt (fun k => p (m + k)) n + _)
    rw [cnt_a p m n, Nat.add_assoc]
    rfl
theorem cnt_f {p : Nat → Bool} : ∀ {n : Nat}, (∀ k, k < n → p k = false) → cnt p n = 0
  | 0, _ => rfl
  | n + 1, h => by
    unfold cnt
    rw [cnt_f fun k hk => h k (by omega), h n (by omega)]
    rfl
def pcL (x : Int64) : Nat := cnt (tb x) 64
def pcN (n : Nat) : Nat := cnt n.testBit 64
theorem pcL_le (x : Int64) : pcL x ≤ 64 := cnt_le _ _
theorem pcN_le (n : Nat) : pcN n ≤ 64 := cnt_le _ _
theorem tb_lN {n : Nat} (i : Nat) (hn : n < 2 ^ 64) : tb (lN n) i = n.testBit i := by
  show (BitVec.ofNat 64 n).getLsbD i = _
  rw [BitVec.getLsbD_ofNat]
  by_cases h : i < 64
  · simp [h]
  · have : n.testBit i = false := Nat.testBit_lt_two_pow (Nat.lt_of_lt_of_le hn (Nat.pow_le_pow_right (by decide) (by omega)))
    simp [h, this]
theorem pcL_N {n : Nat} (hn : n < 2 ^ 64) : pcL (lN n) = pcN n := cnt_c fun k _ => tb_lN k hn
theorem Mo_bits_4_s (d : Nat) (y : Int64) (m : eM) : ∀ j k, k + j = 64 → Mo_bits_4 d y (nI (cnt (tb y) k)) (nI k) m = yI (nI (pcL y)) m
  | 0, k, e => by
    rw [Mo_bits_4_e, l_64, if_pos (by rw [n_le (by omega) (by omega)]; omega), show k = 64 by omega]
    rfl
  | j + 1, k, e => by
    have hc := cnt_le (tb y) k
    rw [Mo_bits_4_e, l_64, if_neg (by rw [n_le (by omega) (by omega)]; omega), bit_s (by omega), lI_u, nI_1]
    have : nI (cnt (tb y) k) + (if tb y k = true then (1 : Int64) else 0).toInt32 = nI (cnt (tb y) (k + 1)) := by
      show _ = nI (cnt (tb y) k + _)
      by_cases z : tb y k = true
      · rw [if_pos z, if_pos z]; exact nI_1 _
      · rw [if_neg z, if_neg z]
        show nI (cnt (tb y) k) + nI 0 = _
        rw [nI_add]
    rw [this]
    exact Mo_bits_4_s d y m j (k + 1) (by omega)
theorem Mo_bits_s (d : Nat) (y : Int64) (m : eM) : Mo_bits d y m = yI (nI (pcL y)) m := by
  rw [Mo_bits_e]
  exact Mo_bits_4_s d y m 64 0 (by omega)
/-! ===== Long.bitCount, byte by byte ===== -/
theorem nat_ext {a b : Nat} (h : ∀ i, a.testBit i = b.testBit i) : a = b := Nat.eq_of_testBit_eq h
/-- a mask of bytes over a shifted number -/
theorem msk (s q b M m0 : Nat) (hb : b < 256) (hm : m0 < 2 ^ (8 - s)) (hs : s ≤ 8) : ((256 * q + b) / 2 ^ s) &&& (256 * M + m0) = 256 * ((q / 2 ^ s) &&& M) + ((b / 2 ^ s) &&& m0) := by
  have hm8 : m0 < 2 ^ 8 := Nat.lt_of_lt_of_le hm (Nat.pow_le_pow_right (by decide) (by omega))
  have h3 : (b / 2 ^ s) &&& m0 < 2 ^ 8 := Nat.lt_of_le_of_lt Nat.and_le_right hm8
  apply nat_ext
  intro i
  rw [Nat.testBit_and, Nat.testBit_div_two_pow, show (256 : Nat) = 2 ^ 8 from rfl, Nat.testBit_two_pow_mul_add _ hb, Nat.testBit_two_pow_mul_add _ hm8, Nat.testBit_two_pow_mul_add _ h3]
  by_cases h : i < 8
  · rw [if_pos h, if_pos h, Nat.testBit_and, Nat.testBit_div_two_pow]
    by_cases h2 : i + s < 8
    · rw [if_pos (by omega)]
    · rw [Nat.testBit_lt_two_pow (x := m0) (i := i) (Nat.lt_of_lt_of_le hm (Nat.pow_le_pow_right (by decide) (by omega))), Bool.and_false, Bool.and_false]
  · rw [if_neg h, if_neg h, if_neg (by omega), Nat.testBit_and, Nat.testBit_div_two_pow, show i + s - 8 = i - 8 + s by omega]
/-- the masks of k bytes -/
def mB8 (b : Nat) : Nat → Nat
  | 0 => 0
  | k + 1 => 256 * mB8 b k + b
theorem mB8_s (b k : Nat) : mB8 b (k + 1) = 256 * mB8 b k + b := rfl
def bc1 (M n : Nat) : Nat := n - ((n / 2 ^ 1) &&& M)
def bc2 (M v : Nat) : Nat := ((v / 2 ^ 0) &&& M) + ((v / 2 ^ 2) &&& M)
/-- the pairs, the nibbles of k bytes -/
theorem bc1_s (k q b : Nat) (hb : b < 256) : bc1 (mB8 85 (k + 1)) (256 * q + b) = 256 * bc1 (mB8 85 k) q + bc1 85 b := by
  unfold bc1
  rw [mB8_s, msk 1 q b _ 85 hb (by decide) (by decide)]
  have h1 : (q / 2 ^ 1) &&& mB8 85 k ≤ q := Nat.le_trans Nat.and_le_left (Nat.div_le_self _ _)
  have h2 : (b / 2 ^ 1) &&& 85 ≤ b := Nat.le_trans Nat.and_le_left (Nat.div_le_self _ _)
  omega
theorem bc2_s (k q b : Nat) (hb : b < 256) : bc2 (mB8 51 (k + 1)) (256 * q + b) = 256 * bc2 (mB8 51 k) q + bc2 51 b := by
  unfold bc2
  rw [mB8_s, msk 2 q b _ 51 hb (by decide) (by decide), msk 0 q b _ 51 hb (by decide) (by decide)]
  omega
/-- a byte's two nibbles, by the first two steps -/
def nib (b : Nat) : Nat := bc2 51 (bc1 85 b)
theorem nib_s : ∀ b, b < 256 → bc1 85 b < 256 ∧ nib b % 16 ≤ 4 ∧ nib b / 16 ≤ 4 ∧ nib b % 16 + nib b / 16 = cnt b.testBit 8 := by decide +kernel
def two (k n : Nat) : Nat := bc2 (mB8 51 k) (bc1 (mB8 85 k) n)
theorem two_s (k q b : Nat) (hb : b < 256) : two (k + 1) (256 * q + b) = 256 * two k q + nib b := by
  unfold two nib
  rw [bc1_s k q b hb, bc2_s k _ _ (nib_s b hb).1]
theorem two_0 (n : Nat) : two 0 n = 0 := by
  unfold two bc2 mB8
  rw [Nat.and_zero, Nat.and_zero]
/-- the third step -/
def bc3 (M v : Nat) : Nat := (v + v / 16) &&& M
theorem bc3_s (M q x : Nat) (h1 : x % 16 ≤ 4) (h2 : x / 16 ≤ 4) (h3 : q % 16 ≤ 4) : bc3 (256 * M + 15) (256 * q + x) = 256 * bc3 M q + (x % 16 + x / 16) := by
  unfold bc3
  have e : 256 * q + x + (256 * q + x) / 16 = 256 * (q + q / 16) + (16 * ((q % 16 + x / 16)) + (x % 16 + x / 16)) := by omega
  have hb : 16 * ((q % 16 + x / 16)) + (x % 16 + x / 16) < 256 := by omega
  have := msk 0 (q + q / 16) (16 * ((q % 16 + x / 16)) + (x % 16 + x / 16)) M 15 hb (by decide) (by decide)
  rw [Nat.pow_zero, Nat.div_one, Nat.div_one, Nat.div_one] at this
  rw [e, this]
  have e2 : (16 * (q % 16 + x / 16) + (x % 16 + x / 16)) &&& 15 = x % 16 + x / 16 := by
    rw [show (15 : Nat) = 2 ^ 4 - 1 from rfl, Nat.and_two_pow_sub_one_eq_mod]
    omega
  rw [e2]
theorem two_m (k n : Nat) : two k n % 16 ≤ 4 := by
  cases k with
  | zero => rw [two_0]; decide
  | succ k =>
    have h := Nat.div_add_mod n 256
    rw [← h, two_s k (n / 256) (n % 256) (Nat.mod_lt _ (by decide))]
    have := (nib_s (n % 256) (Nat.mod_lt _ (by decide))).2.1
    omega
/-- the bytes' counts -/
def bys : Nat → Nat → Nat
  | 0, _ => 0
  | k + 1, n => 256 * bys k (n / 256) + cnt (n % 256).testBit 8
theorem thr_s : ∀ k n, bc3 (mB8 15 k) (two k n) = bys k n
  | 0, n => by unfold bc3 mB8; rw [Nat.and_zero]; rfl
  | k + 1, n => by
    have h := Nat.div_add_mod n 256
    have hb : n % 256 < 256 := Nat.mod_lt _ (by decide)
    obtain ⟨-, a, b, c⟩ := nib_s (n % 256) hb
    show bc3 (256 * mB8 15 k + 15) _ = 256 * bys k (n / 256) + cnt (n % 256).testBit 8
    rw [← thr_s k (n / 256), ← c, ← bc3_s _ _ _ a b (two_m k _), ← two_s k _ _ hb, h]
theorem cnt_byte (n k : Nat) : cnt n.testBit (8 + k) = cnt (n % 256).testBit 8 + cnt (n / 256).testBit k := by
  rw [cnt_a]
  congr 1
  · exact cnt_c fun i hi => by
      rw [show (256 : Nat) = 2 ^ 8 from rfl, Nat.testBit_mod_two_pow, decide_eq_true hi, Bool.true_and]
  · exact cnt_c fun i hi => by
      rw [show (256 : Nat) = 2 ^ 8 from rfl, Nat.testBit_div_two_pow, Nat.add_comm]
theorem bys_lt : ∀ k n, bys k n ≤ 8 * mB8 1 k
  | 0, _ => Nat.le_refl _
  | k + 1, n => by
    have := bys_lt k (n / 256)
    have := cnt_le (n % 256).testBit 8
    show 256 * bys k (n / 256) + _ ≤ 8 * (256 * mB8 1 k + 1)
    omega
/-- the sum of eight bytes -/
theorem bys_8 (n : Nat) : ∃ a b c d e f g h, bys 8 n = a + 256 * (b + 256 * (c + 256 * (d + 256 * (e + 256 * (f + 256 * (g + 256 * h)))))) ∧ a + b + c + d + e + f + g + h = pcN n ∧ a ≤ 8 ∧ b ≤ 8 ∧ c ≤ 8 ∧ d ≤ 8 ∧ e ≤ 8 ∧ f ≤ 8 ∧ g ≤ 8 ∧ h ≤ 8 := by
  refine ⟨_, _, _, _, _, _, _, _, ?_, ?_, cnt_le (n % 256).testBit 8, cnt_le (n / 256 % 256).testBit 8, cnt_le (n / 256 / 256 % 256).testBit 8, cnt_le (n / 256 / 256 / 256 % 256).testBit 8, cnt_le (n / 256 / 256 / 256 / 256 % 256).testBit 8, cnt_le (n / 256 / 256 / 256 / 256 / 256 % 256).testBit 8, cnt_le (n / 256 / 256 / 256 / 256 / 256 / 256 % 256).testBit 8, cnt_le (n / 256 / 256 / 256 / 256 / 256 / 256 / 256 % 256).testBit 8⟩
  · unfold bys; unfold bys; unfold bys; unfold bys; unfold bys; unfold bys; unfold bys; unfold bys; unfold bys
    omega
  · unfold pcN
    rw [show 64 = 8 + (8 + (8 + (8 + (8 + (8 + (8 + (8 + 0))))))) from rfl]
    rw [cnt_byte, cnt_byte, cnt_byte, cnt_byte, cnt_byte, cnt_byte, cnt_byte, cnt_byte]
    show _ = _ + (_ + (_ + (_ + (_ + (_ + (_ + (_ + 0)))))))
    omega
theorem ushN {n k : Nat} (hn : n < 2 ^ 64) (hk : k < 64) : ((lN n).toUInt64 >>> ((nI k).toInt64.toUInt64 &&& Int64.toUInt64 63)).toInt64 = lN (n / 2 ^ k) := by
  have h2 : n / 2 ^ k < 2 ^ 64 := Nat.lt_of_le_of_lt (Nat.div_le_self _ _) hn
  apply t_ext
  intro i hi
  rw [t_ushr hk, tb_lN _ hn, tb_lN _ h2, Nat.testBit_div_two_pow, Nat.add_comm]
theorem landN (a b : Nat) : lN a &&& lN b = lN (a &&& b) := Int64.toBitVec_inj.mp (by
  rw [Int64.toBitVec_and]
  show BitVec.ofNat 64 a &&& BitVec.ofNat 64 b = BitVec.ofNat 64 (a &&& b)
  exact BitVec.ofNat_and.symm)
theorem lN_of (x : Int64) : ∃ n, n < 2 ^ 64 ∧ x = lN n := ⟨x.toBitVec.toNat, x.toBitVec.isLt, Int64.toBitVec_inj.mp (by
  show _ = BitVec.ofNat 64 _
  simp)⟩
theorem m55 : mB8 85 8 = 6148914691236517205 := by decide +kernel
theorem m33 : mB8 51 8 = 3689348814741910323 := by decide +kernel
theorem m0f : mB8 15 8 = 1085102592571150095 := by decide +kernel
def F8 : List Nat → Nat
  | [] => 0
  | x :: xs => x + 256 * F8 xs
def z8 : List Nat → List Nat → List Nat
  | [], ys => ys
  | x :: xs, [] => x :: xs
  | x :: xs, y :: ys => (x + y) :: z8 xs ys
theorem F8_z : ∀ xs ys, F8 (z8 xs ys) = F8 xs + F8 ys
  | [], ys => (Nat.zero_add _).symm
  | x :: xs, [] => rfl
  | x :: xs, y :: ys => by
    have := F8_z xs ys
    show x + y + 256 * F8 (z8 xs ys) = x + 256 * F8 xs + (y + 256 * F8 ys)
    omega
theorem F8_d {x : Nat} {xs : List Nat} (h : x < 256) : F8 (x :: xs) / 2 ^ 8 = F8 xs := by
  show (x + 256 * F8 xs) / 2 ^ 8 = F8 xs
  generalize F8 xs = R
  omega
theorem F8_m {x : Nat} {xs : List Nat} : F8 (x :: xs) % 2 ^ 7 = x % 2 ^ 7 := by
  show (x + 256 * F8 xs) % 2 ^ 7 = x % 2 ^ 7
  generalize F8 xs = R
  omega
theorem F8_lt : ∀ {xs : List Nat} {k : Nat}, (∀ x ∈ xs, x < 256) → xs.length = k → F8 xs < 2 ^ (8 * k)
  | [], k, _, h => by
    subst h
    decide
  | x :: xs, k, hx, h => by
    subst h
    have h1 := F8_lt (xs := xs) (fun y hy => hx y (List.mem_cons_of_mem _ hy)) rfl
    have h2 := hx x List.mem_cons_self
    show x + 256 * F8 xs < 2 ^ (8 * (xs.length + 1))
    rw [Nat.mul_add, Nat.mul_one, Nat.pow_add]
    generalize 2 ^ (8 * xs.length) = Q at h1 ⊢
    generalize F8 xs = R at h1 ⊢
    omega
theorem pq_4 {a b c d e f g h : Nat} (ha : a ≤ 8) (hb : b ≤ 8) (hc : c ≤ 8) (hd : d ≤ 8) (he : e ≤ 8) (hf : f ≤ 8) (hg : g ≤ 8) (hh : h ≤ 8) : F8 [a, b, c, d, e, f, g, h] + F8 [a, b, c, d, e, f, g, h] / 2 ^ 8 = F8 [a + b, b + c, c + d, d + e, e + f, f + g, g + h, h] := by
  rw [F8_d (show a < 256 by omega), ← F8_z]; rfl
theorem pq_5 {a b c d e f g h : Nat} (ha : a ≤ 8) (hb : b ≤ 8) (hc : c ≤ 8) (hd : d ≤ 8) (he : e ≤ 8) (hf : f ≤ 8) (hg : g ≤ 8) (hh : h ≤ 8) : F8 [a + b, b + c, c + d, d + e, e + f, f + g, g + h, h] + F8 [a + b, b + c, c + d, d + e, e + f, f + g, g + h, h] / 2 ^ 16 = F8 [a + b + (c + d), b + c + (d + e), c + d + (e + f), d + e + (f + g), e + f + (g + h), f + g + h, g + h, h] := by
  rw [show (2 ^ 16 : Nat) = 2 ^ 8 * 2 ^ 8 from rfl, ← Nat.div_div_eq_div_mul, F8_d (show a + b < 256 by omega), F8_d (show b + c < 256 by omega), ← F8_z]; rfl
theorem pq_6 {a b c d e f g h : Nat} (ha : a ≤ 8) (hb : b ≤ 8) (hc : c ≤ 8) (hd : d ≤ 8) (he : e ≤ 8) (hf : f ≤ 8) (hg : g ≤ 8) (hh : h ≤ 8) : F8 [a + b + (c + d), b + c + (d + e), c + d + (e + f), d + e + (f + g), e + f + (g + h), f + g + h, g + h, h] + F8 [a + b + (c + d), b + c + (d + e), c + d + (e + f), d + e + (f + g), e + f + (g + h), f + g + h, g + h, h] / 2 ^ 32 = F8 [a + b + (c + d) + (e + f + (g + h)), b + c + (d + e) + (f + g + h), c + d + (e + f) + (g + h), d + e + (f + g) + h, e + f + (g + h), f + g + h, g + h, h] := by
  rw [show (2 ^ 32 : Nat) = 2 ^ 8 * 2 ^ 8 * 2 ^ 8 * 2 ^ 8 from rfl, ← Nat.div_div_eq_div_mul, ← Nat.div_div_eq_div_mul, ← Nat.div_div_eq_div_mul, F8_d (show a + b + (c + d) < 256 by omega), F8_d (show b + c + (d + e) < 256 by omega), F8_d (show c + d + (e + f) < 256 by omega), F8_d (show d + e + (f + g) < 256 by omega), ← F8_z]; rfl
theorem pk_3 {a b c d e f g h : Nat} (ha : a ≤ 8) (hb : b ≤ 8) (hc : c ≤ 8) (hd : d ≤ 8) (he : e ≤ 8) (hf : f ≤ 8) (hg : g ≤ 8) (hh : h ≤ 8) : F8 [a, b, c, d, e, f, g, h] < 2 ^ 64 ∧ F8 [a + b, b + c, c + d, d + e, e + f, f + g, g + h, h] < 2 ^ 64 ∧ F8 [a + b + (c + d), b + c + (d + e), c + d + (e + f), d + e + (f + g), e + f + (g + h), f + g + h, g + h, h] < 2 ^ 64 := ⟨F8_lt (k := 8) (by simp; omega) rfl, F8_lt (k := 8) (by simp; omega) rfl, F8_lt (k := 8) (by simp; omega) rfl⟩
theorem pc_fin (x : Nat) (xs : List Nat) (h : x < 128) : (lN (F8 (x :: xs))).toInt32 &&& (127 : Int32) = nI x := by
  rw [lN_i, show (127 : Int32) = nI 127 from rfl, andN, show (127 : Nat) = 2 ^ 7 - 1 from rfl, Nat.and_two_pow_sub_one_eq_mod, F8_m, Nat.mod_eq_of_lt h]
theorem Lg_bitCount_s (d : Nat) (y : Int64) (m : eM) : Lg_bitCount d y m = yI (nI (pcL y)) m := by
  obtain ⟨n, hn, rfl⟩ := lN_of y
  rw [Lg_bitCount_e, pcL_N hn]
  have e1 : lN n - ((((lN n).toUInt64 >>> ((1 : Int32).toInt64.toUInt64 &&& Int64.toUInt64 63)).toInt64) &&& (6148914691236517205 : Int64)) = lN (bc1 (mB8 85 8) n) := by
    rw [show (1 : Int32) = nI 1 from rfl, ushN hn (by decide), show (6148914691236517205 : Int64) = lN (mB8 85 8) by rw [m55]; rfl, landN, lN_sub (Nat.le_trans Nat.and_le_left (Nat.div_le_self _ _))]
    rfl
  rw [e1, lL_u]
  have h1 : bc1 (mB8 85 8) n < 2 ^ 64 := Nat.lt_of_le_of_lt (Nat.sub_le _ _) hn
  have e2 : (lN (bc1 (mB8 85 8) n) &&& (3689348814741910323 : Int64)) + ((((lN (bc1 (mB8 85 8) n)).toUInt64 >>> ((2 : Int32).toInt64.toUInt64 &&& Int64.toUInt64 63)).toInt64) &&& (3689348814741910323 : Int64)) = lN (two 8 n) := by
    rw [show (2 : Int32) = nI 2 from rfl, ushN h1 (by decide), show (3689348814741910323 : Int64) = lN (mB8 51 8) by rw [m33]; rfl, landN, landN, lN_add]
    unfold two bc2
    rw [Nat.pow_zero, Nat.div_one]
  rw [e2, lL_u]
  have h2 : two 8 n < 2 ^ 64 := by
    unfold two bc2
    have a := Nat.and_le_right (n := bc1 (mB8 85 8) n / 2 ^ 0) (m := mB8 51 8)
    have b := Nat.and_le_right (n := bc1 (mB8 85 8) n / 2 ^ 2) (m := mB8 51 8)
    rw [m33] at a b ⊢
    omega
  have e3 : (lN (two 8 n) + (((lN (two 8 n)).toUInt64 >>> ((4 : Int32).toInt64.toUInt64 &&& Int64.toUInt64 63)).toInt64)) &&& (1085102592571150095 : Int64) = lN (bys 8 n) := by
    rw [show (4 : Int32) = nI 4 from rfl, ushN h2 (by decide), show (1085102592571150095 : Int64) = lN (mB8 15 8) by rw [m0f]; rfl, lN_add, landN, ← thr_s]
    rfl
  rw [e3, lL_u]
  obtain ⟨a, b, c, d', e, f, g, h, hs, hp, ha, hb, hc, hd, he, hf, hg, hh⟩ := bys_8 n
  have hsum : a + b + (c + d') + (e + f + (g + h)) = pcN n := by rw [← hp]; simp only [Nat.add_assoc]
  have hpc := pcN_le n
  have hs : bys 8 n = F8 [a, b, c, d', e, f, g, h] := by rw [hs]; simp only [F8, Nat.mul_zero, Nat.add_zero]
  obtain ⟨k3, k4, k5⟩ := pk_3 ha hb hc hd he hf hg hh
  rw [hs, show (8 : Int32) = nI 8 from rfl, ushN k3 (by decide), lN_add, pq_4 ha hb hc hd he hf hg hh, lL_u, show (16 : Int32) = nI 16 from rfl, ushN k4 (by decide), lN_add, pq_5 ha hb hc hd he hf hg hh, lL_u, show (32 : Int32) = nI 32 from rfl, ushN k5 (by decide), lN_add, pq_6 ha hb hc hd he hf hg hh]
  exact congrArg (yI · m) ((pc_fin _ _ (by rw [hsum]; exact Nat.lt_of_le_of_lt hpc (by decide))).trans (congrArg nI hsum))
/-! ===== Integer.bitCount of small sets ===== -/
def b1I (x0 : Int32) : Int32 := x0 - (((x0.toUInt32 >>> ((1 : Int32).toUInt32 &&& Int32.toUInt32 31)).toInt32) &&& (1431655765 : Int32))
def b2I (v1 : Int32) : Int32 := (v1 &&& (858993459 : Int32)) + (((v1.toUInt32 >>> ((2 : Int32).toUInt32 &&& Int32.toUInt32 31)).toInt32) &&& (858993459 : Int32))
def b3I (v2 : Int32) : Int32 := (v2 + ((v2.toUInt32 >>> ((4 : Int32).toUInt32 &&& Int32.toUInt32 31)).toInt32)) &&& (252645135 : Int32)
def b4I (v3 : Int32) : Int32 := v3 + ((v3.toUInt32 >>> ((8 : Int32).toUInt32 &&& Int32.toUInt32 31)).toInt32)
def b5I (v4 : Int32) : Int32 := v4 + ((v4.toUInt32 >>> ((16 : Int32).toUInt32 &&& Int32.toUInt32 31)).toInt32)
def b6I (v5 : Int32) : Int32 := v5 &&& (63 : Int32)
def bcI (x : Int32) : Int32 := b6I (b5I (b4I (b3I (b2I (b1I x)))))
theorem bcI_64 : ∀ i, i < 64 → ∀ j, j < 64 → bcI (nI (64 * i + j)) = nI (cnt (64 * i + j).testBit 12) := by decide +kernel
theorem bcI_s (n : Nat) (hn : n < 4096) : bcI (nI n) = nI (cnt n.testBit 12) := by
  have := bcI_64 (n / 64) (by omega) (n % 64) (by omega)
  rwa [show 64 * (n / 64) + n % 64 = n by omega] at this
theorem pcN_12 {n : Nat} (hn : n < 4096) : pcN n = cnt n.testBit 12 := by
  unfold pcN
  rw [show 64 = 12 + 52 from rfl, cnt_a, cnt_f (p := fun k => n.testBit (12 + k)) fun k _ => Nat.testBit_lt_two_pow (Nat.lt_of_lt_of_le hn (Nat.pow_le_pow_right (n := 2) (i := 12) (by decide) (by omega)))]
  rfl
theorem In_bitCount_s (d : Nat) {n : Nat} (hn : n < 4096) (m : eM) : In_bitCount d (nI n) m = yI (nI (pcN n)) m := by
  rw [pcN_12 hn, ← bcI_s n hn]
  refine (In_bitCount_e d (nI n) m).trans ?_
  show lI (b1I (nI n)) (fun v1 => lI (b2I v1) fun v2 => lI (b3I v2) fun v3 => lI (b4I v3) fun v4 => lI (b5I v4) fun v5 => yI (b6I v5) m) = _
  rw [lI_u, lI_u, lI_u, lI_u, lI_u]
  rfl
