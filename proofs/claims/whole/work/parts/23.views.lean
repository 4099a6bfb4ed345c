/-! ===== counters as propositions, for simp ===== -/
theorem n_lt0 {n : Nat} (h : n < 2147483648) : (nI n < 0) = False := eq_false (nI_pos h)
theorem n_ge0 {n : Nat} (h : n < 2147483648) : (0 ≤ nI n) = True := eq_true (nI_pos' h)
theorem n_eq {a b : Nat} (ha : a < 2147483648) (hb : b < 2147483648) : (nI a = nI b) = (a = b) := propext (nI_eq ha hb)
theorem n_le {a b : Nat} (ha : a < 2147483648) (hb : b < 2147483648) : (nI a ≤ nI b) = (a ≤ b) := propext (nI_leI ha hb)
theorem n_lt {a b : Nat} (ha : a < 2147483648) (hb : b < 2147483648) : (nI a < nI b) = (a < b) := propext (nI_ltI ha hb)
theorem n_eq0 {a : Nat} (ha : a < 2147483648) : (nI a = 0) = (a = 0) := n_eq (b := 0) ha (by decide)
theorem n_eq1 {a : Nat} (ha : a < 2147483648) : (nI a = 1) = (a = 1) := n_eq (b := 1) ha (by decide)
theorem n_le0 {a : Nat} (ha : a < 2147483648) : (nI a ≤ 0) = (a = 0) := (n_le (b := 0) ha (by decide)).trans (propext ⟨fun h => by omega, fun h => by omega⟩)
theorem n_cl {n : Nat} (h : n < 2147483648) : (nI n).toNatClampNeg = n := nI_clamp h
theorem n_cl0 : (0 : Int32).toNatClampNeg = 0 := by decide
theorem n_cl1 : (1 : Int32).toNatClampNeg = 1 := by decide
theorem n_m1 {n : Nat} (h : 0 < n) : nI n + (-1) = nI (n - 1) := by
  obtain ⟨k, rfl⟩ : ∃ k, n = k + 1 := ⟨n - 1, by omega⟩
  exact pk_m1 k
theorem n_s1 {n : Nat} (h : 0 < n) : nI n - 1 = nI (n - 1) := by
  obtain ⟨k, rfl⟩ : ∃ k, n = k + 1 := ⟨n - 1, by omega⟩
  exact nI_pred k
theorem n_neg1 : nI 0 - 1 = -1 := by decide
theorem n_neg1' : nI 0 + (-1) = -1 := by decide
theorem neg1_lt : ((-1 : Int32) < 0) = True := by decide
theorem neg1_ge : (0 ≤ (-1 : Int32)) = False := by decide
theorem n_ne_neg1 {n : Nat} (h : n < 2147483648) : (nI n = -1) = False := eq_false fun e => by
  have := nI_pos h
  rw [e] at this
  exact this (by decide)
theorem neg1_ne_n {n : Nat} (h : n < 2147483648) : (-1 = nI n) = False := eq_false fun e => by
  have := nI_pos h
  rw [← e] at this
  exact this (by decide)
/-- an argument against a count -/
def inN (x : Int32) (n : Nat) : Bool := !decide (x < 0) && !decide (nI n ≤ x)
theorem inN_n {k n : Nat} (hk : k < 2147483648) (hn : n < 2147483648) : inN (nI k) n = decide (k < n) := by
  unfold inN
  rw [decide_eq_false (nI_pos hk)]
  by_cases h : k < n
  · rw [decide_eq_true h, decide_eq_false (by rw [n_le hn hk]; omega)]; rfl
  · rw [decide_eq_false h, decide_eq_true (by rw [n_le hn hk]; omega)]; rfl
theorem inN_of {x : Int32} {n : Nat} (hn : n < 2147483648) (h : inN x n = true) : ∃ k, k < n ∧ x = nI k := by
  unfold inN at h
  simp only [Bool.and_eq_true, Bool.not_eq_true', decide_eq_false_iff_not] at h
  rcases pk_ix x hn with z | z | z
  · exact absurd z h.1
  · exact absurd z h.2
  · exact z
theorem inN_no {x : Int32} {n : Nat} (h : inN x n = false) : x < 0 ∨ nI n ≤ x := by
  unfold inN at h
  by_cases h1 : x < 0
  · exact Or.inl h1
  · by_cases h2 : nI n ≤ x
    · exact Or.inr h2
    · rw [decide_eq_false h1, decide_eq_false h2] at h; cases h
/-- the tree that tests it -/
theorem inN_t {x : Int32} {n : Nat} {α : Type} (A B : α) : (if x < 0 then B else if nI n ≤ x then B else A) = if inN x n = true then A else B := by
  unfold inN
  by_cases h1 : x < 0
  · rw [if_pos h1, decide_eq_true h1]; rfl
  · rw [if_neg h1, decide_eq_false h1]
    by_cases h2 : nI n ≤ x
    · rw [if_pos h2, decide_eq_true h2]; rfl
    · rw [if_neg h2, decide_eq_false h2]; rfl
theorem yI_if (c : Bool) (m : eM) : (if c = true then yI 1 m else yI 0 m) = yI (bb c) m := by cases c <;> rfl
theorem lt_succ {x : Int32} {n : Nat} (hn : n + 1 < 2147483648) : (nI n < x) = (nI (n + 1) ≤ x) := by
  apply propext
  rw [Int32.lt_iff_toInt_lt, Int32.le_iff_toInt_le, nI_toInt (by omega), nI_toInt (by omega)]
  omega
/-! ===== frames ===== -/
/-- outside of S nothing was written, and no reference, no room -/
def Fr (S : Nat → Nat → Bool) (m m' : eM) : Prop := (∀ a j, S a j = false → gI m' a j = gI m a j) ∧ (∀ a j, S a j = false → gL m' a j = gL m a j) ∧ m'.2.2 = m.2.2
theorem Fr.rfl' {S : Nat → Nat → Bool} {m : eM} : Fr S m m := ⟨fun _ _ _ => rfl, fun _ _ _ => rfl, rfl⟩
theorem Fr.tr {S : Nat → Nat → Bool} {m m' m'' : eM} (h : Fr S m m') (h2 : Fr S m' m'') : Fr S m m'' := ⟨fun a j z => (h2.1 a j z).trans (h.1 a j z), fun a j z => (h2.2.1 a j z).trans (h.2.1 a j z), h2.2.2.trans h.2.2⟩
theorem Fr.up {S T : Nat → Nat → Bool} {m m' : eM} (h : Fr S m m') (hS : ∀ a j, T a j = false → S a j = false) : Fr T m m' := ⟨fun a j z => h.1 a j (hS a j z), fun a j z => h.2.1 a j (hS a j z), h.2.2⟩
theorem Fr.i {S : Nat → Nat → Bool} {m m' : eM} (h : Fr S m m') {a j : Nat} {v : Int32} (hS : S a j = true) : Fr S m (sI m' a j v) := ⟨fun b k z => by
  rw [gI_sI, if_neg (fun e => by rw [e.1, e.2, hS] at z; cases z)]
  exact h.1 b k z, fun b k z => h.2.1 b k z, h.2.2⟩
theorem Fr.l {S : Nat → Nat → Bool} {m m' : eM} (h : Fr S m m') {a j : Nat} {v : Int64} (hS : S a j = true) : Fr S m (sL m' a j v) := ⟨fun b k z => h.1 b k z, fun b k z => by
  rw [gL_sL, if_neg (fun e => by rw [e.1, e.2, hS] at z; cases z)]
  exact h.2.1 b k z, h.2.2⟩
theorem Fr.sk {S : Nat → Nat → Bool} {m m' : eM} (h : Fr S m m') (hs : Sk m) : Sk m' := fun q hq => by
  have e : gR m' = gR m := congrArg Prod.fst h.2.2
  rw [e]
  exact hs q hq
theorem Fr.r {S : Nat → Nat → Bool} {m m' : eM} (h : Fr S m m') (a j : Nat) : gR m' a j = gR m a j := by
  have e : gR m' = gR m := congrArg Prod.fst h.2.2
  rw [e]
theorem Sk.i {m : eM} (hs : Sk m) (a j : Nat) (v : Int32) : Sk (sI m a j v) := hs
theorem Sk.l {m : eM} (hs : Sk m) (a j : Nat) (v : Int64) : Sk (sL m a j v) := hs
/-! ===== views: what class and reference both hold ===== -/
abbrev eV : Type := (Nat → Nat → Nat) × (Nat → Nat → Int64)
def nF (v : eV) : Nat := v.1 0 0
def nPl (v : eV) : Nat := v.1 0 1
def nP (v : eV) : Nat := v.1 0 2
def nCm (v : eV) : Nat := v.1 0 3
def nS (v : eV) : Nat := v.1 0 4
def nO (v : eV) : Nat := v.1 0 5
def nL (v : eV) : Nat := v.1 0 6
def nWt (v : eV) : Nat := v.1 0 7
def tru (v : eV) : Nat := v.1 0 8
def cha (v : eV) (j : Nat) : Nat := v.1 1 j
def bea (v : eV) (j : Nat) : Nat := v.1 2 j
def hom (v : eV) (j : Nat) : Nat := v.1 3 j
def kno (v : eV) (j : Nat) : Nat := v.1 4 j
def lawV (v : eV) (j : Nat) : Nat := v.1 5 j
def lat (v : eV) (j : Nat) : Nat := v.1 6 j
def isc (v : eV) (j : Nat) : Nat := v.1 7 j
def who (v : eV) (j : Nat) : Nat := v.1 9 j
def whn (v : eV) (j : Nat) : Nat := v.1 10 j
def isq (v : eV) (j : Nat) : Nat := v.1 11 j
def lkC (v : eV) (j : Nat) : Nat := v.1 12 j
def lkM (v : eV) (j : Nat) : Nat := v.1 13 j
def lkF (v : eV) (j : Nat) : Nat := v.1 14 j
def lkT (v : eV) (j : Nat) : Nat := v.1 15 j
def wtC (v : eV) (j : Nat) : Nat := v.1 16 j
def wtM (v : eV) (j : Nat) : Nat := v.1 17 j
def nam (v : eV) (j : Nat) : Nat := v.1 18 j
def soV (v : eV) (j : Nat) : Int64 := v.2 0 j
def com (v : eV) : Int64 := v.2 1 0

/-- a view as calls make it -/
def Va (v : eV) : Prop := (nF v ≤ 6 ∧ nPl v ≤ 6 ∧ nP v ≤ 6 ∧ nCm v ≤ 4) ∧ (nS v ≤ 24 ∧ nO v ≤ 6 ∧ nL v ≤ 12 ∧ nWt v ≤ 4) ∧ tru v < 2 ^ nF v ∧ (∀ j, j < nF v → cha v j ≤ 10) ∧ (∀ j, j < nPl v → bea v j < 360) ∧ (∀ j, j < nP v → hom v j < nPl v) ∧ (∀ j, j < nP v → kno v j < 2 ^ nF v) ∧ (∀ j, j < 2 → lawV v j ≤ 1) ∧ (∀ j, j < 2 → lat v j ≤ 60) ∧ (∀ j, j < 2 → isc v j ≤ 1) ∧ isc v 0 = 1 ∧ (∀ j, (j < nS v ∨ 24 ≤ j ∧ j < 24 + nO v) → who v j < nP v ∧ whn v j < 1440 ∧ isq v j ≤ 1 ∧ (isq v j = 1 → soV v j = 0) ∧ (∀ w, 2 ^ nF v ≤ w → tb (soV v j) w = false)) ∧ (∀ i j, i ≤ j → j < nS v → whn v i ≤ whn v j) ∧ (∀ j, j < nL v → lkC v j < 2 ∧ lkM v j < 1440 ∧ lkF v j < 360 ∧ lkT v j < 360) ∧ (∀ j, j < nWt v → wtC v j < 2 ∧ wtM v j < 1440) ∧ (∀ w, 2 ^ nF v ≤ w → tb (com v) w = false)
theorem Va.f {v : eV} (h : Va v) : nF v ≤ 6 := h.1.1
theorem Va.pl {v : eV} (h : Va v) : nPl v ≤ 6 := h.1.2.1
theorem Va.p {v : eV} (h : Va v) : nP v ≤ 6 := h.1.2.2.1
theorem Va.cm {v : eV} (h : Va v) : nCm v ≤ 4 := h.1.2.2.2
theorem Va.s {v : eV} (h : Va v) : nS v ≤ 24 := h.2.1.1
theorem Va.o {v : eV} (h : Va v) : nO v ≤ 6 := h.2.1.2.1
theorem Va.l {v : eV} (h : Va v) : nL v ≤ 12 := h.2.1.2.2.1
theorem Va.wt {v : eV} (h : Va v) : nWt v ≤ 4 := h.2.1.2.2.2
theorem Va.tr {v : eV} (h : Va v) : tru v < 2 ^ nF v := h.2.2.1
theorem Va.ch {v : eV} (h : Va v) {j : Nat} (hj : j < nF v) : cha v j ≤ 10 := h.2.2.2.1 j hj
theorem Va.be {v : eV} (h : Va v) {j : Nat} (hj : j < nPl v) : bea v j < 360 := h.2.2.2.2.1 j hj
theorem Va.ho {v : eV} (h : Va v) {j : Nat} (hj : j < nP v) : hom v j < nPl v := h.2.2.2.2.2.1 j hj
theorem Va.kn {v : eV} (h : Va v) {j : Nat} (hj : j < nP v) : kno v j < 2 ^ nF v := h.2.2.2.2.2.2.1 j hj
theorem Va.la {v : eV} (h : Va v) {j : Nat} (hj : j < 2) : lawV v j ≤ 1 := h.2.2.2.2.2.2.2.1 j hj
theorem Va.lt {v : eV} (h : Va v) {j : Nat} (hj : j < 2) : lat v j ≤ 60 := h.2.2.2.2.2.2.2.2.1 j hj
theorem Va.ic {v : eV} (h : Va v) {j : Nat} (hj : j < 2) : isc v j ≤ 1 := h.2.2.2.2.2.2.2.2.2.1 j hj
theorem Va.i0 {v : eV} (h : Va v) : isc v 0 = 1 := h.2.2.2.2.2.2.2.2.2.2.1
/-- an index of a saying or an offer -/
def sIx (v : eV) (j : Nat) : Prop := j < nS v ∨ 24 ≤ j ∧ j < 24 + nO v
theorem Va.wh {v : eV} (h : Va v) {j : Nat} (hj : sIx v j) : who v j < nP v := (h.2.2.2.2.2.2.2.2.2.2.2.1 j hj).1
theorem Va.wn {v : eV} (h : Va v) {j : Nat} (hj : sIx v j) : whn v j < 1440 := (h.2.2.2.2.2.2.2.2.2.2.2.1 j hj).2.1
theorem Va.iq {v : eV} (h : Va v) {j : Nat} (hj : sIx v j) : isq v j ≤ 1 := (h.2.2.2.2.2.2.2.2.2.2.2.1 j hj).2.2.1
theorem Va.q0 {v : eV} (h : Va v) {j : Nat} (hj : sIx v j) (hq : isq v j = 1) : soV v j = 0 := (h.2.2.2.2.2.2.2.2.2.2.2.1 j hj).2.2.2.1 hq
theorem Va.sw {v : eV} (h : Va v) {j : Nat} (hj : sIx v j) {w : Nat} (hw : 2 ^ nF v ≤ w) : tb (soV v j) w = false := (h.2.2.2.2.2.2.2.2.2.2.2.1 j hj).2.2.2.2 w hw
theorem Va.so {v : eV} (h : Va v) {i j : Nat} (hi : i ≤ j) (hj : j < nS v) : whn v i ≤ whn v j := h.2.2.2.2.2.2.2.2.2.2.2.2.1 i j hi hj
theorem Va.lk {v : eV} (h : Va v) {j : Nat} (hj : j < nL v) : lkC v j < 2 ∧ lkM v j < 1440 ∧ lkF v j < 360 ∧ lkT v j < 360 := h.2.2.2.2.2.2.2.2.2.2.2.2.2.1 j hj
theorem Va.wa {v : eV} (h : Va v) {j : Nat} (hj : j < nWt v) : wtC v j < 2 ∧ wtM v j < 1440 := h.2.2.2.2.2.2.2.2.2.2.2.2.2.2.1 j hj
theorem Va.cw {v : eV} (h : Va v) {w : Nat} (hw : 2 ^ nF v ≤ w) : tb (com v) w = false := h.2.2.2.2.2.2.2.2.2.2.2.2.2.2.2 w hw
theorem W_le {v : eV} (h : Va v) : 2 ^ nF v ≤ 64 := Nat.pow_le_pow_right (n := 2) (by decide) h.f
theorem W_pos {v : eV} : 0 < 2 ^ nF v := Nat.two_pow_pos _
/-! ===== what the answers are, by the view ===== -/
def likeV (v : eV) (facts world u : Nat) : Bool := decide (u < 2 ^ nF v) && (tb (com v) u && decide ((u ^^^ world) &&& facts = 0))
def lieV (v : eV) (i l w : Nat) : Bool := decide (isq v i = 0) && (if l = 0 then !tb (soV v i) w else decide (soV v i &&& mk (likeV v (kno v (who v i)) w) = 0))
def lieM (v : eV) (i l : Nat) : Int64 := mk fun w => decide (w < 2 ^ nF v) && lieV v i l w
/-- at whom (6: nobody) by the first n of the sayings r 0, r 1, .. -/
def ptN (v : eV) (r : Nat → Nat) (c mn w : Nat) : Nat → Nat
  | 0 => 6
  | n + 1 => if whn v (r n) + lat v c ≤ mn ∧ tb (lieM v (r n) (lawV v c)) w = true then who v (r n) else ptN v r c mn w n
def pI (n : Nat) : Int32 := if n = 6 then -1 else nI n
def beN (v : eV) (p : Nat) : Nat := if p = 6 then 0 else bea v (hom v p)
def wiB (b x y : Nat) : Bool := if x ≤ y then decide (x ≤ b) && decide (b ≤ y) else decide (x ≤ b) || decide (b ≤ y)
def pt0 (v : eV) (c mn w : Nat) : Nat := ptN v (fun i => i) c mn w (nS v)
def fitV (v : eV) (l w : Nat) : Bool := wiB (beN v (pt0 v (lkC v l) (lkM v l) w)) (lkF v l) (lkT v l)
def fitM (v : eV) (l : Nat) : Int64 := mk fun w => decide (w < 2 ^ nF v) && fitV v l w
/-- the worlds that fit the looks ahead of n -/
def canN (v : eV) : Nat → Int64
  | 0 => com v
  | n + 1 => canN v n &&& fitM v n
def canV (v : eV) : Int64 := canN v (nL v)
def facM (v : eV) (f : Nat) : Int64 := mk fun w => decide (w < 2 ^ nF v) && w.testBit f
def allM (v : eV) : Int64 := mk fun w => decide (w < 2 ^ nF v)
def surN (x y : Int64) : Int32 := if x = 0 then 3 else if x &&& (y ^^^ (-1)) = 0 then 1 else if x &&& y = 0 then 0 else 2
def thr (v : eV) (c : Int32) : Bool := inN c 2 && decide (isc v c.toNatClampNeg = 1)
theorem ptN_le {v : eV} (hv : Va v) {r : Nat → Nat} {c mn w : Nat} : ∀ {n : Nat}, (∀ k, k < n → sIx v (r k)) → ptN v r c mn w n = 6 ∨ ptN v r c mn w n < nP v
  | 0, _ => Or.inl rfl
  | n + 1, h => by
    unfold ptN
    split
    · exact Or.inr (hv.wh (h n (by omega)))
    · exact ptN_le hv fun k hk => h k (by omega)
theorem pt0_le {v : eV} (hv : Va v) {c mn w : Nat} : pt0 v c mn w = 6 ∨ pt0 v c mn w < nP v := ptN_le hv fun _ h => Or.inl h
