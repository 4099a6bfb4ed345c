/-! ===== reads over writes, answers, counters ===== -/
theorem gI_sI (m : eM) (a i : Nat) (v : Int32) (b j : Nat) : gI (sI m a i v) b j = if b = a ∧ j = i then v else gI m b j := rfl
theorem gI_sL (m : eM) (a i : Nat) (v : Int64) (b j : Nat) : gI (sL m a i v) b j = gI m b j := rfl
theorem gI_sR (m : eM) (a i : Nat) (v : Option Nat) (b j : Nat) : gI (sR m a i v) b j = gI m b j := rfl
theorem gI_sN (m : eM) (n b j : Nat) : gI (sN m n) b j = gI m b j := rfl
theorem gI_sX (m : eM) (n b j : Nat) : gI (sX m n) b j = gI m b j := rfl
theorem gL_sL (m : eM) (a i : Nat) (v : Int64) (b j : Nat) : gL (sL m a i v) b j = if b = a ∧ j = i then v else gL m b j := rfl
theorem gL_sI (m : eM) (a i : Nat) (v : Int32) (b j : Nat) : gL (sI m a i v) b j = gL m b j := rfl
theorem gL_sR (m : eM) (a i : Nat) (v : Option Nat) (b j : Nat) : gL (sR m a i v) b j = gL m b j := rfl
theorem gL_sN (m : eM) (n b j : Nat) : gL (sN m n) b j = gL m b j := rfl
theorem gL_sX (m : eM) (n b j : Nat) : gL (sX m n) b j = gL m b j := rfl
theorem gR_sR (m : eM) (a i : Nat) (v : Option Nat) (b j : Nat) : gR (sR m a i v) b j = if b = a ∧ j = i then v else gR m b j := rfl
theorem gR_sI (m : eM) (a i : Nat) (v : Int32) (b j : Nat) : gR (sI m a i v) b j = gR m b j := rfl
theorem gR_sL (m : eM) (a i : Nat) (v : Int64) (b j : Nat) : gR (sL m a i v) b j = gR m b j := rfl
theorem gR_sN (m : eM) (n b j : Nat) : gR (sN m n) b j = gR m b j := rfl
theorem gR_sX (m : eM) (n b j : Nat) : gR (sX m n) b j = gR m b j := rfl
theorem gX_sI (m : eM) (a i : Nat) (v : Int32) : gX (sI m a i v) = gX m := rfl
theorem gX_sL (m : eM) (a i : Nat) (v : Int64) : gX (sL m a i v) = gX m := rfl
theorem gX_sR (m : eM) (a i : Nat) (v : Option Nat) : gX (sR m a i v) = gX m := rfl
theorem gX_sN (m : eM) (n : Nat) : gX (sN m n) = gX m + 1 := rfl
theorem gX_sX (m : eM) (n : Nat) : gX (sX m n) = gX m := rfl
theorem gN_sI (m : eM) (a i : Nat) (v : Int32) : gN (sI m a i v) = gN m := rfl
theorem gN_sL (m : eM) (a i : Nat) (v : Int64) : gN (sL m a i v) = gN m := rfl
theorem gN_sR (m : eM) (a i : Nat) (v : Option Nat) : gN (sR m a i v) = gN m := rfl
theorem gN_sN (m : eM) (n : Nat) : gN (sN m n) = gN m := rfl
theorem gN_sX (m : eM) (n : Nat) : gN (sX m n) = gN m := rfl
theorem bI_y (v : Int32) (m : eM) (k : Int32 → eM → oX) : bI (yI v m) k = k v m := rfl
theorem bL_y (v : Int64) (m : eM) (k : Int64 → eM → oX) : bL (yL v m) k = k v m := rfl
theorem bV_y (m : eM) (k : eM → oX) : bV (yV m) k = k m := rfl
theorem bR_s (a : Nat) (k : Nat → oX) : bR (some a) k = k a := rfl
theorem yB_b (v : Bool) (m : eM) : yB (if v = true then 1 else 0) m = yI (if v = true then 1 else 0) m := by cases v <;> rfl
theorem bI_if {c : Prop} {q : Decidable c} {a b : oX} {k : Int32 → eM → oX} : bI (@ite _ c q a b) k = @ite _ c q (bI a k) (bI b k) := by
  by_cases h : c
  · rw [if_pos h, if_pos h]
  · rw [if_neg h, if_neg h]
/-- counters: nI of the kit -/
theorem eIn_n {m : eM} {a n : Nat} (h : n < 2 ^ 31) : eIn m a (nI n) = decide (n < aln m a) := by
  unfold eIn
  rw [nI_clamp h, decide_eq_decide]
  constructor
  · intro z; exact Nat.lt_of_not_le fun y => z (Or.inr y)
  · intro z y
    rcases y with y | y
    · exact nI_pos h y
    · omega
theorem ga_n {m : eM} {a k n : Nat} {q : oX} (hk : kd a = k) (h : n < aln m a) (h2 : n < 2 ^ 31) : ga m a k (nI n) q = q := by
  unfold ga
  exact if_pos ⟨hk, by rw [eIn_n h2]; exact decide_eq_true h⟩
theorem gw_n {m : eM} {a k n : Nat} {q : oX} (hk : kd a = k) (h3 : 3 ≤ a) (h : n < aln m a) (h2 : n < 2 ^ 31) : gw m a k (nI n) q = q := by
  unfold gw
  exact if_pos ⟨hk, by rw [eIn_n h2]; exact decide_eq_true h, h3⟩
theorem aln_k {m : eM} {a : Nat} (h : a ≠ 0) : aln m a = kl a := if_neg h
