/-! ===== longs of naturals; the greatest divisor ===== -/
def nJ (k : Nat) : Int64 := Int64.ofNat k
theorem nJ_eq {a b : Nat} (ha : a < 2 ^ 63) (hb : b < 2 ^ 63) : nJ a = nJ b ↔ a = b := by
  constructor
  · intro h
    have := congrArg Int64.toInt h
    unfold nJ at this
    rw [Int64.toInt_ofNat_of_lt ha, Int64.toInt_ofNat_of_lt hb] at this
    exact Int.ofNat.inj this
  · intro h; rw [h]
theorem nJ_0 {a : Nat} (ha : a < 2 ^ 63) : nJ a = 0 ↔ a = 0 := nJ_eq (b := 0) ha (by decide)
theorem nJ_mul (a b : Nat) : nJ a * nJ b = nJ (a * b) := (Int64.ofNat_mul a b).symm
theorem nJ_add (a b : Nat) : nJ a + nJ b = nJ (a + b) := (Int64.ofNat_add a b).symm
theorem nJ_div {a b : Nat} (ha : a < 2 ^ 63) (hb : b < 2 ^ 63) : nJ a / nJ b = nJ (a / b) := (Int64.ofNat_div ha hb).symm
theorem nJ_rem {a b : Nat} (ha : a < 2 ^ 63) (hb : b < 2 ^ 63) : nJ a - nJ a / nJ b * nJ b = nJ (a % b) := by
  have hle : a / b * b ≤ a := Nat.div_mul_le_self a b
  have e : nJ a - nJ (a / b * b) = nJ (a - a / b * b) := (Int64.ofNat_sub a (a / b * b) hle).symm
  rw [nJ_div ha hb, nJ_mul, e]
  congr 1
  have := Nat.div_add_mod a b
  rw [Nat.mul_comm] at this
  omega
theorem nI_J {k : Nat} (hk : k < 2147483648) : (nI k).toInt64 = nJ k := Int32.toInt64_ofNat' (by
  have : Int32.maxValue.toInt = 2147483647 := by decide
  rw [this]; omega)
theorem nJ_I (k : Nat) : (nJ k).toInt32 = nI k := Int64.toInt32_ofNat'
theorem gcd_step (a b : Nat) : Nat.gcd b (a % b) = Nat.gcd a b := by
  rw [Nat.gcd_comm a b, Nat.gcd_rec b a, Nat.gcd_comm]
theorem cmp0J {b : Nat} (hb : b < 2 ^ 63) : lg_cmp (nJ b) 0 = 0 ↔ b = 0 := (cmp0 _ _).trans (nJ_0 hb)
theorem Mo_lowest_6_s (d : Nat) (y0 y2 : Int64) (x4 : Int32) (m : eM) : ∀ N a b w, b ≤ N → a < 2 ^ 63 → b < 2 ^ 63 → (0 < a ∨ 0 < b) → Mo_lowest_6 d y0 y2 x4 (nJ a) (nJ b) w m = yL ((if x4 = 0 then y0 else y2) / nJ (Nat.gcd a b)) m
  | 0, a, b, w, hN, ha, hb, hp => by
    obtain rfl : b = 0 := by omega
    rw [Mo_lowest_6_e, if_pos ((cmp0J hb).mpr rfl), Nat.gcd_zero_right, if_neg (show ¬ nJ a = 0 from fun q => by have := (nJ_0 ha).mp q; omega), if_neg (show ¬ nJ a = 0 from fun q => by have := (nJ_0 ha).mp q; omega)]
    by_cases z : x4 = 0
    · rw [if_neg (fun q => q z), if_pos z]
    · rw [if_pos z, if_neg z]
  | N + 1, a, b, w, hN, ha, hb, hp => by
    by_cases y : b = 0
    · exact Mo_lowest_6_s d y0 y2 x4 m 0 a b w (by omega) ha hb hp
    · have hlt : a % b < b := Nat.mod_lt a (by omega)
      rw [Mo_lowest_6_e, if_neg (fun q => y ((cmp0J hb).mp q)), if_neg (fun q => y ((nJ_0 hb).mp q)), nJ_rem ha hb, Mo_lowest_6_s d y0 y2 x4 m N b (a % b) _ (by omega) hb (by omega) (Or.inl (by omega)), gcd_step]
theorem Mo_lowest_s (d : Nat) {a b : Nat} (x4 : Int32) (m : eM) (ha : a < 2 ^ 63) (hb : b < 2 ^ 63) (hp : 0 < a) : Mo_lowest d (nJ a) (nJ b) x4 m = yL (nJ ((if x4 = 0 then a else b) / Nat.gcd a b)) m := by
  have hg : Nat.gcd a b ≤ a := Nat.gcd_le_left b hp
  rw [Mo_lowest_e, Mo_lowest_6_s d _ _ x4 m b a b eU (Nat.le_refl _) ha hb (Or.inl hp)]
  by_cases z : x4 = 0
  · rw [if_pos z, if_pos z, nJ_div ha (by omega)]
  · rw [if_neg z, if_neg z, nJ_div hb (by omega)]
theorem LC_greatestDivisor_9_s (d : Nat) (y0 y2 : Int64) (m : eM) : ∀ k x a b w, b < 2 ^ k → x + 2 * k ≤ 99 → a < 2 ^ 63 → b < 2 ^ 63 → LC_greatestDivisor_9 d y0 y2 (nJ a) (nJ b) (nI x) w m = yL (nJ (Nat.gcd a b)) m
  | 0, x, a, b, w, hb2, hx, ha, hb => by
    obtain rfl : b = 0 := by omega
    rw [LC_greatestDivisor_9_e, l_100, if_neg (by rw [n_le (by omega) (by omega)]; omega), if_pos ((cmp0J hb).mpr rfl), Nat.gcd_zero_right]
  | k + 1, x, a, b, w, hb2, hx, ha, hb => by
    rw [LC_greatestDivisor_9_e, l_100, if_neg (by rw [n_le (by omega) (by omega)]; omega)]
    by_cases z : b = 0
    · subst z
      rw [if_pos ((cmp0J hb).mpr rfl), Nat.gcd_zero_right]
    · have hlt : a % b < b := Nat.mod_lt a (by omega)
      have hc : a % b < 2 ^ 63 := by omega
      rw [if_neg (fun q => z ((cmp0J hb).mp q)), if_neg (fun q => z ((nJ_0 hb).mp q)), nJ_rem ha hb, nI_1, LC_greatestDivisor_9_e, l_100, if_neg (by rw [n_le (by omega) (by omega)]; omega), ← gcd_step a b]
      by_cases y : a % b = 0
      · rw [if_pos ((cmp0J hc).mpr y), y, Nat.gcd_zero_right]
      · have h2 : b % (a % b) < a % b := Nat.mod_lt b (by omega)
        have h3 : b % (a % b) ≤ b - a % b := by
          rw [Nat.mod_eq_sub_mod (show b ≥ a % b by omega)]
          exact Nat.mod_le _ _
        have h4 : 2 ^ (k + 1) = 2 * 2 ^ k := by rw [Nat.pow_succ, Nat.mul_comm]
        rw [if_neg (fun q => y ((cmp0J hc).mp q)), if_neg (fun q => y ((nJ_0 hc).mp q)), nJ_rem hb hc, nI_1, LC_greatestDivisor_9_s d y0 y2 m k (x + 1 + 1) _ _ _ (by omega) (by omega) hc (by omega), gcd_step]
theorem LC_greatestDivisor_s (d : Nat) {a b : Nat} (m : eM) (ha : a < 2 ^ 63) (hb : b < 2 ^ 48) : LC_greatestDivisor d (nJ a) (nJ b) m = yL (nJ (Nat.gcd a b)) m := by
  rw [LC_greatestDivisor_e]
  exact LC_greatestDivisor_9_s d _ _ m 48 0 a b eU hb (by omega) ha (by omega)
theorem LC_power_5_s (d : Nat) (q n : Nat) (hn : n < 2147483647) (m : eM) : ∀ j k, k + j = n → LC_power_5 d (nJ q) (nI n) (nJ (q ^ k)) (nI k) m = yL (nJ (q ^ n)) m
  | 0, k, e => by
    rw [LC_power_5_e, if_pos (by rw [n_le (by omega) (by omega)]; omega), show k = n by omega]
  | j + 1, k, e => by
    rw [LC_power_5_e, if_neg (by rw [n_le (by omega) (by omega)]; omega), nJ_mul, ← Nat.pow_succ, nI_1]
    exact LC_power_5_s d q n hn m j (k + 1) (by omega)
theorem LC_power_s (d : Nat) (q : Nat) {n : Nat} (hn : n < 2147483647) (m : eM) : LC_power d (nJ q) (nI n) m = yL (nJ (q ^ n)) m := by
  rw [LC_power_e]
  exact LC_power_5_s d q n hn m n 0 (by omega)
