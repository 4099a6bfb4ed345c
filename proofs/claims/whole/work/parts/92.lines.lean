/-! ===== a parish, read as a function of the tape ===== -/
def sb {A B : Type} (x : Sum Nat A) (f : A → Sum Nat B) : Sum Nat B := match x with
  | .inl e => .inl e
  | .inr a => f a
theorem sb_e {A B : Type} {x : Sum Nat A} {f : A → Sum Nat B} {e : Nat} (h : x = .inl e) : sb x f = .inl e := by rw [h]; rfl
theorem sb_s {A B : Type} {x : Sum Nat A} {f : A → Sum Nat B} {a : A} (h : x = .inr a) : sb x f = f a := by rw [h]; rfl
theorem sb_i {A B : Type} {x : Sum Nat A} {f : A → Sum Nat B} {b : B} (h : sb x f = .inr b) : ∃ a, x = .inr a ∧ f a = .inr b := by
  cases x with
  | inl e => cases h
  | inr a => exact ⟨a, rfl, h⟩
def rqW (s : eTp) (n b : Nat) : Sum Nat Nat := if tkW s b n = true then .inr (tX s b) else .inl (er s b 1)
def rqS (s : eTp) (c b : Nat) : Sum Nat Nat := if tkS s b c = true then .inr (tX s b) else .inl (er s b 1)
def rqN (s : eTp) (mx b : Nat) : Sum Nat Nat := if tK s b = 3 then (if tN s b ≤ mx then .inr (tX s b) else .inl (er s b 4)) else .inl (er s b 1)
def plc (u : eV) (j : Nat) : Nat := nam u (6 + j)
def prs (u : eV) (j : Nat) : Nat := nam u (12 + j)
def tol (u : eV) (c : Nat) : Nat := u.1 19 c
def cmS (u : eV) (k : Nat) : Int64 := u.2 2 k
def isTd (u : eV) (w : Nat) : Bool := (fnd (nam u) (nF u) w).isSome || ((fnd (plc u) (nPl u) w).isSome || (fnd (prs u) (nP u) w).isSome)
def dbl (x : Int64) (i : Nat) : Int64 := mk fun w => tb x w || (decide (2 ^ i ≤ w) && tb x (w - 2 ^ i))
def uFact (u : eV) (n c : Nat) : eV := upV (upV (upV (upL u 1 0 (dbl (com u) (nF u))) 1 (nF u) c) 18 (nF u) n) 0 0 (nF u + 1)
def uPlac (u : eV) (n b : Nat) : eV := upV (upV (upV u 2 (nPl u) b) 18 (6 + nPl u) n) 0 1 (nPl u + 1)
def uPers (u : eV) (n h k : Nat) : eV := upV (upV (upV (upV u 3 (nP u) h) 4 (nP u) k) 18 (12 + nP u) n) 0 2 (nP u + 1)
def uComm (u : eV) (v : Nat → Int32) : eV := upV (upL (upL u 2 (nCm u) (woN 6 v)) 1 0 (com u &&& woN (nF u) v)) 0 3 (nCm u + 1)
def uCock (u : eV) (c l t : Nat) : eV := upV (upV (upV (upV u 5 c l) 6 c t) 7 c 1) 19 c 1
abbrev xL : Type := Sum Nat (Nat × eV)
/-- up to a NAME not told yet: where it stands -/
def stL (s : eTp) (u : eV) (b cnt : Nat) : Sum Nat Nat := if 6 ≤ cnt then .inl (er s b 5) else if tkN s (tX s b) = true then (if isTd u (tW s (tX s b)) = true then .inl (er s (tX s b) 3) else .inr (tX s b)) else .inl (er s (tX s b) 1)
def lnF (s : eTp) (u : eV) (b : Nat) : xL := sb (stL s u b (nF u)) fun b1 => if tkW s (tX s b1) 47328224 = true then sb (rqN s 10 (tX s (tX s b1))) fun b4 => sb (rqS s 59 b4) fun b5 => .inr (b5, uFact u (tW s b1) (tN s (tX s (tX s b1)))) else sb (rqS s 59 (tX s b1)) fun b3 => .inr (b3, uFact u (tW s b1) 5)
def lnPl (s : eTp) (u : eV) (b : Nat) : xL := sb (stL s u b (nPl u)) fun b1 => sb (rqW s 847478194 (tX s b1)) fun b3 => sb (rqN s 359 b3) fun b4 => sb (rqS s 59 b4) fun b5 => .inr (b5, uPlac u (tW s b1) (tN s b3))
def knL (s : eTp) (u : eV) : Nat → Nat → Nat → Sum Nat (Nat × Nat)
  | 0, b, k => .inr (b, k)
  | f + 1, b, k => if tkN s b = true then (match fnd (nam u) (nF u) (tW s b) with
    | none => .inl (er s b 2)
    | some i => if k.testBit i = true then .inl (er s b 3) else knL s u f (tX s b) (k ||| 2 ^ i)) else .inr (b, k)
def lnPe (s : eTp) (u : eV) (b : Nat) : xL := sb (stL s u b (nP u)) fun b1 => sb (rqW s 47 (tX s b1)) fun b3 => if tkN s b3 = true then (match fnd (plc u) (nPl u) (tW s b3) with
  | none => .inl (er s b3 2)
  | some h => sb (rqW s 6132988 (tX s b3)) fun b5 => sb (knL s u 7 b5 0) fun r => sb (rqS s 59 r.1) fun b6 => .inr (b6, uPers u (tW s b1) h r.2)) else .inl (er s b3 1)
def lnCm (s : eTp) (u : eV) (b : Nat) : xL := if 4 ≤ nCm u then .inl (er s b 5) else sb (pE s (nam u) (nF u) (tX s b)) fun g => sb (rqS s 59 g.1) fun b5 => .inr (b5, uComm u g.2.2.2)
def lnCk (s : eTp) (u : eV) (b : Nat) : xL := sb (rqN s 1 (tX s b)) fun b2 => if tol u (tN s (tX s b)) = 1 then .inl (er s (tX s b) 3) else sb (rqW s 8798 b2) fun b3 => sb (rqN s 1 b3) fun b4 => sb (rqW s 237470 b4) fun b5 => sb (rqN s 60 b5) fun b6 => sb (rqS s 59 b6) fun b7 => .inr (b7, uCock u (tN s (tX s b)) (tN s b3) (tN s b5))
def lnA (s : eTp) (u : eV) (b : Nat) : xL := if tkW s b 118928 = true then lnF s u b else if tkW s b 8740067 = true then lnPl s u b else if tkW s b 232608281 = true then lnPe s u b else if tkW s b 51284111 = true then lnCm s u b else if tkW s b 70076 = true then lnCk s u b else .inl (er s b 1)
def lns (s : eTp) : Nat → Nat → eV → xL
  | 0, b, u => .inr (b, u)
  | k + 1, b, u => if tK s b = 0 then .inr (b, u) else match lnA s u b with
    | .inl e => .inl e
    | .inr r => lns s k r.1 r.2
theorem lns_0 {s : eTp} {k b : Nat} {u : eV} (h : tK s b = 0) : lns s (k + 1) b u = .inr (b, u) := by unfold lns; rw [if_pos h]
theorem lns_e {s : eTp} {k b e : Nat} {u : eV} (h : ¬ tK s b = 0) (h2 : lnA s u b = .inl e) : lns s (k + 1) b u = .inl e := by unfold lns; rw [if_neg h, h2]
theorem lns_s {s : eTp} {k b : Nat} {u : eV} {r : Nat × eV} (h : ¬ tK s b = 0) (h2 : lnA s u b = .inr r) : lns s (k + 1) b u = lns s k r.1 r.2 := by rw [lns, if_neg h, h2]
def u0 : eV := (fun a j => if a = 7 ∧ j = 0 then 1 else 0, fun a j => if a = 1 ∧ j = 0 then 1 else 0)
def pR (s : eTp) : xL := lns s 1000 0 u0
/-! what is told is as a view's -/
def Vu (u : eV) : Prop := (nF u ≤ 6 ∧ nPl u ≤ 6 ∧ nP u ≤ 6 ∧ nCm u ≤ 4) ∧ ((∀ j, j < nF u → cha u j ≤ 10 ∧ nam u j < 27 ^ 8) ∧ (∀ j, j < nPl u → bea u j < 360 ∧ plc u j < 27 ^ 8) ∧ ∀ j, j < nP u → hom u j < nPl u ∧ kno u j < 2 ^ nF u ∧ prs u j < 27 ^ 8) ∧ (∀ c, c < 2 → lawV u c ≤ 1 ∧ lat u c ≤ 60 ∧ isc u c ≤ 1 ∧ tol u c ≤ 1) ∧ (isc u 0 = 1 ∧ tol u 1 = isc u 1) ∧ (∀ w, w < 64 → tb (com u) w = (decide (w < 2 ^ nF u) && decide (∀ k, k < nCm u → tb (cmS u k) w = true))) ∧ ∀ k, k < nCm u → ∀ w, w < 64 → tb (cmS u k) w = tb (cmS u k) (w % 2 ^ nF u)
theorem rqW_i {s : eTp} {n b b' : Nat} (h : rqW s n b = .inr b') : tkW s b n = true ∧ b' = tX s b := by
  unfold rqW at h
  split at h
  · rename_i z; cases h; exact ⟨z, rfl⟩
  · cases h
theorem rqS_i {s : eTp} {n b b' : Nat} (h : rqS s n b = .inr b') : tkS s b n = true ∧ b' = tX s b := by
  unfold rqS at h
  split at h
  · rename_i z; cases h; exact ⟨z, rfl⟩
  · cases h
theorem rqN_i {s : eTp} {n b b' : Nat} (h : rqN s n b = .inr b') : tK s b = 3 ∧ tN s b ≤ n ∧ b' = tX s b := by
  unfold rqN at h
  split at h
  · rename_i z
    split at h
    · rename_i y; cases h; exact ⟨z, y, rfl⟩
    · cases h
  · cases h
theorem stL_i {s : eTp} {u : eV} {b n b' : Nat} (h : stL s u b n = .inr b') : n < 6 ∧ tkN s (tX s b) = true ∧ isTd u (tW s (tX s b)) = false ∧ b' = tX s b := by
  unfold stL at h
  by_cases z : 6 ≤ n
  · rw [if_pos z] at h; cases h
  · rw [if_neg z] at h
    by_cases y : tkN s (tX s b) = true
    · rw [if_pos y] at h
      by_cases x : isTd u (tW s (tX s b)) = true
      · rw [if_pos x] at h; cases h
      · rw [if_neg x] at h; cases h; exact ⟨by omega, y, Bool.eq_false_iff.mpr x, rfl⟩
    · rw [if_neg y] at h; cases h
/-- on to a later place -/
def Aft (s : eTp) (b b' : Nat) : Prop := b' ≤ s.1 ∧ tB s b + 1 ≤ tB s b'
theorem Aft.tr {s : eTp} {b c d : Nat} (h : Aft s b c) (h2 : Aft s c d) : Aft s b d := ⟨h2.1, by have := h.2; have := h2.2; omega⟩
theorem aft {s : eTp} {b : Nat} (hb : b ≤ s.1) (hk : tK s b ≠ 0) : Aft s b (tX s b) := tk_nx hb hk
theorem rqW_a {s : eTp} {n b b' : Nat} (hb : b ≤ s.1) (h : rqW s n b = .inr b') : Aft s b b' := by
  obtain ⟨h1, rfl⟩ := rqW_i h
  exact aft hb (by have := (tkW_k h1).1; omega)
theorem rqS_a {s : eTp} {n b b' : Nat} (hb : b ≤ s.1) (h : rqS s n b = .inr b') : Aft s b b' := by
  obtain ⟨h1, rfl⟩ := rqS_i h
  exact aft hb (by have := (tkS_k h1).1; omega)
theorem rqN_a {s : eTp} {n b b' : Nat} (hb : b ≤ s.1) (h : rqN s n b = .inr b') : Aft s b b' := by
  obtain ⟨h1, -, rfl⟩ := rqN_i h
  exact aft hb (by omega)
theorem stL_a {s : eTp} {u : eV} {b n b' : Nat} (hb : b ≤ s.1) (hk : tK s b ≠ 0) (h : stL s u b n = .inr b') : Aft s b b' ∧ Aft s b' (tX s b') := by
  obtain ⟨-, h1, -, rfl⟩ := stL_i h
  have a := aft hb hk
  exact ⟨a, aft a.1 (by have := (tkN_k h1).1; omega)⟩
theorem knL_a {s : eTp} {u : eV} : ∀ f b k r, b ≤ s.1 → knL s u f b k = .inr r → r.1 ≤ s.1 ∧ tB s b ≤ tB s r.1
  | 0, b, k, r, hb, h => by cases h; exact ⟨hb, Nat.le_refl _⟩
  | f + 1, b, k, r, hb, h => by
    unfold knL at h
    by_cases z : tkN s b = true
    · rw [if_pos z] at h
      cases y : fnd (nam u) (nF u) (tW s b) with
      | none => rw [y] at h; cases h
      | some i =>
        rw [y] at h
        dsimp only at h
        by_cases x : k.testBit i = true
        · rw [if_pos x] at h; cases h
        · rw [if_neg x] at h
          have a := aft hb (show tK s b ≠ 0 by have := (tkN_k z).1; omega)
          have i1 := knL_a f _ _ r a.1 h
          have := a.2
          exact ⟨i1.1, by omega⟩
    · rw [if_neg z] at h; cases h; exact ⟨hb, Nat.le_refl _⟩
theorem lnF_a {s : eTp} {u : eV} {b : Nat} {r : Nat × eV} (hb : b ≤ s.1) (hk : tK s b ≠ 0) (h : lnF s u b = .inr r) : Aft s b r.1 := by
  obtain ⟨b1, h1, h2⟩ := sb_i h
  obtain ⟨a1, a2⟩ := stL_a hb hk h1
  by_cases z : tkW s (tX s b1) 47328224 = true
  · rw [if_pos z] at h2
    obtain ⟨b4, h4, h5⟩ := sb_i h2
    obtain ⟨b5, h6, h7⟩ := sb_i h5
    cases h7
    have a3 := aft a2.1 (show tK s (tX s b1) ≠ 0 by have := (tkW_k z).1; omega)
    have a4 := rqN_a a3.1 h4
    exact (((a1.tr a2).tr a3).tr a4).tr (rqS_a a4.1 h6)
  · rw [if_neg z] at h2
    obtain ⟨b5, h6, h7⟩ := sb_i h2
    cases h7
    exact (a1.tr a2).tr (rqS_a a2.1 h6)
theorem lnPl_a {s : eTp} {u : eV} {b : Nat} {r : Nat × eV} (hb : b ≤ s.1) (hk : tK s b ≠ 0) (h : lnPl s u b = .inr r) : Aft s b r.1 := by
  obtain ⟨b1, h1, h2⟩ := sb_i h
  obtain ⟨a1, a2⟩ := stL_a hb hk h1
  obtain ⟨b3, h3, h4⟩ := sb_i h2
  have a3 := rqW_a a2.1 h3
  obtain ⟨b4, h5, h6⟩ := sb_i h4
  have a4 := rqN_a a3.1 h5
  obtain ⟨b5, h7, h8⟩ := sb_i h6
  cases h8
  exact (((a1.tr a2).tr a3).tr a4).tr (rqS_a a4.1 h7)
theorem lnPe_a {s : eTp} {u : eV} {b : Nat} {r : Nat × eV} (hb : b ≤ s.1) (hk : tK s b ≠ 0) (h : lnPe s u b = .inr r) : Aft s b r.1 := by
  obtain ⟨b1, h1, h2⟩ := sb_i h
  obtain ⟨a1, a2⟩ := stL_a hb hk h1
  obtain ⟨b3, h3, h4⟩ := sb_i h2
  have a3 := rqW_a a2.1 h3
  by_cases z : tkN s b3 = true
  · rw [if_pos z] at h4
    have a4 := aft a3.1 (show tK s b3 ≠ 0 by have := (tkN_k z).1; omega)
    cases y : fnd (plc u) (nPl u) (tW s b3) with
    | none => rw [y] at h4; cases h4
    | some i =>
      rw [y] at h4
      obtain ⟨b5, h5, h6⟩ := sb_i h4
      have a5 := rqW_a a4.1 h5
      obtain ⟨x, h7, h8⟩ := sb_i h6
      have a6 := knL_a 7 _ _ x a5.1 h7
      obtain ⟨b6, h9, h10⟩ := sb_i h8
      cases h10
      have a7 := rqS_a a6.1 h9
      have a15 := (((a1.tr a2).tr a3).tr a4).tr a5
      exact ⟨a7.1, by have := a7.2; have := a15.2; show tB s b + 1 ≤ tB s b6; omega⟩
  · rw [if_neg z] at h4; cases h4
theorem lnCm_a {s : eTp} {u : eV} {b : Nat} {r : Nat × eV} (hb : b ≤ s.1) (hk : tK s b ≠ 0) (h : lnCm s u b = .inr r) : Aft s b r.1 := by
  unfold lnCm at h
  by_cases z : 4 ≤ nCm u
  · rw [if_pos z] at h; cases h
  · rw [if_neg z] at h
    obtain ⟨g, h1, h2⟩ := sb_i h
    obtain ⟨b5, h3, h4⟩ := sb_i h2
    cases h4
    have a1 := aft hb hk
    obtain ⟨g1, g2, -, -⟩ := pE_G s (nam u) (nF u) _ g a1.1 h1
    exact (a1.tr ⟨g1, g2⟩).tr (rqS_a g1 h3)
theorem lnCk_a {s : eTp} {u : eV} {b : Nat} {r : Nat × eV} (hb : b ≤ s.1) (hk : tK s b ≠ 0) (h : lnCk s u b = .inr r) : Aft s b r.1 := by
  obtain ⟨b2, h1, h2⟩ := sb_i h
  have a1 := aft hb hk
  have a2 := rqN_a a1.1 h1
  by_cases z : tol u (tN s (tX s b)) = 1
  · rw [if_pos z] at h2; cases h2
  · rw [if_neg z] at h2
    obtain ⟨b3, h3, h4⟩ := sb_i h2
    have a3 := rqW_a a2.1 h3
    obtain ⟨b4, h5, h6⟩ := sb_i h4
    have a4 := rqN_a a3.1 h5
    obtain ⟨b5, h7, h8⟩ := sb_i h6
    have a5 := rqW_a a4.1 h7
    obtain ⟨b6, h9, h10⟩ := sb_i h8
    have a6 := rqN_a a5.1 h9
    obtain ⟨b7, h11, h12⟩ := sb_i h10
    cases h12
    exact (((((a1.tr a2).tr a3).tr a4).tr a5).tr a6).tr (rqS_a a6.1 h11)
theorem lnA_a {s : eTp} {u : eV} {b : Nat} {r : Nat × eV} (hb : b ≤ s.1) (hk : tK s b ≠ 0) (h : lnA s u b = .inr r) : Aft s b r.1 := by
  unfold lnA at h
  split at h
  · exact lnF_a hb hk h
  · split at h
    · exact lnPl_a hb hk h
    · split at h
      · exact lnPe_a hb hk h
      · split at h
        · exact lnCm_a hb hk h
        · split at h
          · exact lnCk_a hb hk h
          · cases h
/-! the reader of known facts tells each once -/
def pc6 (k : Nat) : Nat := (k.testBit 0).toNat + (k.testBit 1).toNat + (k.testBit 2).toNat + (k.testBit 3).toNat + (k.testBit 4).toNat + (k.testBit 5).toNat
theorem pc6_a : ∀ k, k < 64 → ∀ i, i < 6 → k.testBit i = false → pc6 (k ||| 2 ^ i) = pc6 k + 1 := by decide +kernel
theorem pc6_l (k : Nat) : pc6 k ≤ 6 := by
  unfold pc6
  have : ∀ b : Bool, b.toNat ≤ 1 := fun b => by cases b <;> decide
  have h0 := this (k.testBit 0)
  have h1 := this (k.testBit 1)
  have h2 := this (k.testBit 2)
  have h3 := this (k.testBit 3)
  have h4 := this (k.testBit 4)
  have h5 := this (k.testBit 5)
  omega
/-! the view of a told line -/
theorem u_n (u : eV) (a j x : Nat) (h : ¬ (a = 0)) : (upV u a j x).1 0 = u.1 0 := funext fun k => if_neg fun q => h q.1.symm
theorem up_o (u : eV) (a j x b k : Nat) (h : ¬ (b = a ∧ k = j)) : (upV u a j x).1 b k = u.1 b k := if_neg h
theorem up_e (u : eV) (a j x : Nat) : (upV u a j x).1 a j = x := if_pos ⟨rfl, rfl⟩
theorem up_L (u : eV) (a j x : Nat) : (upV u a j x).2 = u.2 := rfl
theorem uL_V (u : eV) (a j : Nat) (y : Int64) : (upL u a j y).1 = u.1 := rfl
theorem dbl_t {x : Int64} {i w : Nat} (hw : w < 64) : tb (dbl x i) w = (tb x w || (decide (2 ^ i ≤ w) && tb x (w - 2 ^ i))) := t_mk _ hw
theorem dbl_c {x : Int64} {i : Nat} (hi : i < 6) : x ||| (x <<< (((1 : Int32) <<< (nI i &&& 31)).toInt64 &&& 63)) = dbl x i := by
  have h2 : 2 ^ i < 64 := Nat.pow_lt_pow_right (a := 2) (m := i) (n := 6) (by decide) hi
  refine mk_e fun w hw => ?_
  rw [t_or, shl1 i (by omega), t_shl h2 x hw]
theorem mod_2 (w i j : Nat) (h : i ≤ j) : w % 2 ^ j % 2 ^ i = w % 2 ^ i := Nat.mod_mod_of_dvd w (Nat.pow_dvd_pow 2 h)
theorem Vu_0 : Vu u0 := by
  refine ⟨⟨by decide, by decide, by decide, by decide⟩, ⟨fun j hj => absurd hj (Nat.not_lt_zero j), fun j hj => absurd hj (Nat.not_lt_zero j), fun j hj => absurd hj (Nat.not_lt_zero j)⟩, fun c hc => ?_, ⟨rfl, rfl⟩, fun w hw => ?_, fun k hk => absurd hk (Nat.not_lt_zero k)⟩
  · refine ⟨Nat.zero_le _, Nat.zero_le _, ?_, Nat.zero_le _⟩
    show (if 7 = 7 ∧ c = 0 then 1 else 0) ≤ 1
    split <;> omega
  · show tb 1 w = _
    rw [t_1 w hw]
    have : (∀ k, k < nCm u0 → tb (cmS u0 k) w = true) := fun k hk => absurd hk (Nat.not_lt_zero k)
    rw [decide_eq_true this, Bool.and_true]
    exact decide_eq_decide.mpr ⟨fun q => by rw [q]; decide, fun q => by
      have : w < 2 ^ 0 := q
      omega⟩
theorem Vu_fact {u : eV} (h : Vu u) {n c : Nat} (hn : nF u < 6) (hc : c ≤ 10) (hN : n < 27 ^ 8) : Vu (uFact u n c) := by
  obtain ⟨⟨a1, a2, a3, a4⟩, ⟨b1, b2, b3⟩, c1, c2, d1, d2⟩ := h
  have eF : nF (uFact u n c) = nF u + 1 := rfl
  have eP : nPl (uFact u n c) = nPl u := rfl
  have ePe : nP (uFact u n c) = nP u := rfl
  have eC : nCm (uFact u n c) = nCm u := rfl
  have hp : (2 : Nat) ^ (nF u + 1) = 2 ^ nF u + 2 ^ nF u := by rw [Nat.pow_succ]; omega
  have g : ∀ a k, a ≠ 0 → ¬ (a = 1 ∧ k = nF u) → ¬ (a = 18 ∧ k = nF u) → (uFact u n c).1 a k = u.1 a k := fun a k q0 q1 q2 => by
    show (upV (upV (upV (upL u 1 0 (dbl (com u) (nF u))) 1 (nF u) c) 18 (nF u) n) 0 0 (nF u + 1)).1 a k = _
    rw [up_o _ _ _ _ _ _ (by omega), up_o _ _ _ _ _ _ q2, up_o _ _ _ _ _ _ q1, uL_V]
  refine ⟨⟨by rw [eF]; omega, a2, a3, a4⟩, ⟨fun j hj => ?_, fun j hj => ?_, fun j hj => ?_⟩, fun x hx => ?_, ⟨?_, ?_⟩, fun w hw => ?_, fun k hk w hw => ?_⟩
  · rw [eF] at hj
    by_cases z : j = nF u
    · subst z
      have e1 : cha (uFact u n c) (nF u) = c := by
        show (upV (upV (upV (upL u 1 0 (dbl (com u) (nF u))) 1 (nF u) c) 18 (nF u) n) 0 0 (nF u + 1)).1 1 (nF u) = c
        rw [up_o _ _ _ _ _ _ (by omega), up_o _ _ _ _ _ _ (by omega), up_e]
      have e2 : nam (uFact u n c) (nF u) = n := by
        show (upV (upV (upV (upL u 1 0 (dbl (com u) (nF u))) 1 (nF u) c) 18 (nF u) n) 0 0 (nF u + 1)).1 18 (nF u) = n
        rw [up_o _ _ _ _ _ _ (by omega), up_e]
      rw [e1, e2]; exact ⟨hc, hN⟩
    · have e1 : cha (uFact u n c) j = cha u j := g 1 j (by decide) (by omega) (by omega)
      have e2 : nam (uFact u n c) j = nam u j := g 18 j (by decide) (by omega) (by omega)
      rw [e1, e2]; exact b1 j (by omega)
  · have e1 : bea (uFact u n c) j = bea u j := g 2 j (by decide) (by omega) (by omega)
    have e2 : plc (uFact u n c) j = plc u j := g 18 (6 + j) (by decide) (by omega) (by omega)
    rw [e1, e2]; exact b2 j hj
  · have e1 : hom (uFact u n c) j = hom u j := g 3 j (by decide) (by omega) (by omega)
    have e2 : kno (uFact u n c) j = kno u j := g 4 j (by decide) (by omega) (by omega)
    have e3 : prs (uFact u n c) j = prs u j := g 18 (12 + j) (by decide) (by omega) (by omega)
    have := b3 j hj
    rw [e1, e2, e3, eF, eP, hp]; exact ⟨this.1, by omega, this.2.2⟩
  · have e1 : lawV (uFact u n c) x = lawV u x := g 5 x (by decide) (by omega) (by omega)
    have e2 : lat (uFact u n c) x = lat u x := g 6 x (by decide) (by omega) (by omega)
    have e3 : isc (uFact u n c) x = isc u x := g 7 x (by decide) (by omega) (by omega)
    have e4 : tol (uFact u n c) x = tol u x := g 19 x (by decide) (by omega) (by omega)
    rw [e1, e2, e3, e4]; exact c1 x hx
  · rw [show isc (uFact u n c) 0 = isc u 0 from g 7 0 (by decide) (by omega) (by omega)]; exact c2.1
  · rw [show tol (uFact u n c) 1 = tol u 1 from g 19 1 (by decide) (by omega) (by omega), show isc (uFact u n c) 1 = isc u 1 from g 7 1 (by decide) (by omega) (by omega)]; exact c2.2
  · have hq : ∀ k, cmS (uFact u n c) k = cmS u k := fun k => by
      show (if 2 = 1 ∧ k = 0 then dbl (com u) (nF u) else u.2 2 k) = u.2 2 k
      rw [if_neg (by omega)]
    have hW : (2 : Nat) ^ nF u ≤ 32 := Nat.pow_le_pow_right (n := 2) (i := nF u) (j := 5) (by decide) (by omega)
    show tb (dbl (com u) (nF u)) w = (decide (w < 2 ^ (nF u + 1)) && decide (∀ k, k < nCm u → tb (cmS (uFact u n c) k) w = true))
    rw [dbl_t hw, hp, d1 w hw]
    by_cases z : w < 2 ^ nF u
    · rw [decide_eq_true z, decide_eq_true (show w < 2 ^ nF u + 2 ^ nF u by omega), decide_eq_false (show ¬ 2 ^ nF u ≤ w by omega), Bool.false_and, Bool.or_false]
      congr 1
      all_goals exact decide_eq_decide.mpr ⟨fun q k hk => by rw [hq]; exact q k hk, fun q k hk => by have := q k hk; rw [hq] at this; exact this⟩
    · rw [decide_eq_false z, Bool.false_and, Bool.false_or, decide_eq_true (show 2 ^ nF u ≤ w by omega), Bool.true_and, d1 _ (Nat.lt_of_le_of_lt (Nat.sub_le _ _) hw)]
      by_cases y : w < 2 ^ nF u + 2 ^ nF u
      · rw [decide_eq_true y, decide_eq_true (show w - 2 ^ nF u < 2 ^ nF u by omega)]
        congr 1
        have em : w % 2 ^ nF u = w - 2 ^ nF u := by
          rw [Nat.mod_eq_sub_mod (by omega), Nat.mod_eq_of_lt (by omega)]
        have e1 : ∀ k, k < nCm u → tb (cmS u k) (w - 2 ^ nF u) = tb (cmS u k) w := fun k hk => by rw [d2 k hk w hw, em]
        exact decide_eq_decide.mpr ⟨fun q k hk => by rw [hq, ← e1 k hk]; exact q k hk, fun q k hk => by rw [e1 k hk]; have := q k hk; rw [hq] at this; exact this⟩
      · rw [decide_eq_false y, decide_eq_false (show ¬ w - 2 ^ nF u < 2 ^ nF u by omega)]; rfl
  · have hq : cmS (uFact u n c) k = cmS u k := by
      show (if 2 = 1 ∧ k = 0 then dbl (com u) (nF u) else u.2 2 k) = u.2 2 k
      rw [if_neg (by omega)]
    have hm : w % 2 ^ (nF u + 1) < 64 := Nat.lt_of_le_of_lt (Nat.mod_le _ _) hw
    rw [hq, eF, d2 k hk w hw, d2 k hk _ hm, mod_2 w (nF u) (nF u + 1) (by omega)]
theorem Vu_plac {u : eV} (h : Vu u) {n b : Nat} (hn : nPl u < 6) (hb : b < 360) (hN : n < 27 ^ 8) : Vu (uPlac u n b) := by
  obtain ⟨⟨a1, a2, a3, a4⟩, ⟨b1, b2, b3⟩, c1, c2, d1, d2⟩ := h
  have eP : nPl (uPlac u n b) = nPl u + 1 := rfl
  have g : ∀ a k, a ≠ 0 → ¬ (a = 2 ∧ k = nPl u) → ¬ (a = 18 ∧ k = 6 + nPl u) → (uPlac u n b).1 a k = u.1 a k := fun a k q0 q1 q2 => by
    show (upV (upV (upV u 2 (nPl u) b) 18 (6 + nPl u) n) 0 1 (nPl u + 1)).1 a k = _
    rw [up_o _ _ _ _ _ _ (by omega), up_o _ _ _ _ _ _ q2, up_o _ _ _ _ _ _ q1]
  refine ⟨⟨a1, by rw [eP]; omega, a3, a4⟩, ⟨fun j hj => ?_, fun j hj => ?_, fun j hj => ?_⟩, fun x hx => ?_, ⟨?_, ?_⟩, d1, d2⟩
  · have hj' : j < nF u := hj
    have e1 : cha (uPlac u n b) j = cha u j := g 1 j (by decide) (by omega) (by omega)
    have e2 : nam (uPlac u n b) j = nam u j := g 18 j (by decide) (by omega) (by omega)
    rw [e1, e2]; exact b1 j hj
  · rw [eP] at hj
    by_cases z : j = nPl u
    · subst z
      have e1 : bea (uPlac u n b) (nPl u) = b := by
        show (upV (upV (upV u 2 (nPl u) b) 18 (6 + nPl u) n) 0 1 (nPl u + 1)).1 2 (nPl u) = b
        rw [up_o _ _ _ _ _ _ (by omega), up_o _ _ _ _ _ _ (by omega), up_e]
      have e2 : plc (uPlac u n b) (nPl u) = n := by
        show (upV (upV (upV u 2 (nPl u) b) 18 (6 + nPl u) n) 0 1 (nPl u + 1)).1 18 (6 + nPl u) = n
        rw [up_o _ _ _ _ _ _ (by omega), up_e]
      rw [e1, e2]; exact ⟨hb, hN⟩
    · have e1 : bea (uPlac u n b) j = bea u j := g 2 j (by decide) (by omega) (by omega)
      have e2 : plc (uPlac u n b) j = plc u j := g 18 (6 + j) (by decide) (by omega) (by omega)
      rw [e1, e2]; exact b2 j (by omega)
  · have hj' : j < nP u := hj
    have e1 : hom (uPlac u n b) j = hom u j := g 3 j (by decide) (by omega) (by omega)
    have e2 : kno (uPlac u n b) j = kno u j := g 4 j (by decide) (by omega) (by omega)
    have e3 : prs (uPlac u n b) j = prs u j := g 18 (12 + j) (by decide) (by omega) (by omega)
    have := b3 j hj
    rw [e1, e2, e3, eP]; exact ⟨by omega, this.2.1, this.2.2⟩
  · have e1 : lawV (uPlac u n b) x = lawV u x := g 5 x (by decide) (by omega) (by omega)
    have e2 : lat (uPlac u n b) x = lat u x := g 6 x (by decide) (by omega) (by omega)
    have e3 : isc (uPlac u n b) x = isc u x := g 7 x (by decide) (by omega) (by omega)
    have e4 : tol (uPlac u n b) x = tol u x := g 19 x (by decide) (by omega) (by omega)
    rw [e1, e2, e3, e4]; exact c1 x hx
  · rw [show isc (uPlac u n b) 0 = isc u 0 from g 7 0 (by decide) (by omega) (by omega)]; exact c2.1
  · rw [show tol (uPlac u n b) 1 = tol u 1 from g 19 1 (by decide) (by omega) (by omega), show isc (uPlac u n b) 1 = isc u 1 from g 7 1 (by decide) (by omega) (by omega)]; exact c2.2
theorem Vu_pers {u : eV} (h : Vu u) {n p k : Nat} (hn : nP u < 6) (hp : p < nPl u) (hk : k < 2 ^ nF u) (hN : n < 27 ^ 8) : Vu (uPers u n p k) := by
  obtain ⟨⟨a1, a2, a3, a4⟩, ⟨b1, b2, b3⟩, c1, c2, d1, d2⟩ := h
  have eP : nP (uPers u n p k) = nP u + 1 := rfl
  have g : ∀ a j, a ≠ 0 → ¬ (a = 3 ∧ j = nP u) → ¬ (a = 4 ∧ j = nP u) → ¬ (a = 18 ∧ j = 12 + nP u) → (uPers u n p k).1 a j = u.1 a j := fun a j q0 q1 q2 q3 => by
    show (upV (upV (upV (upV u 3 (nP u) p) 4 (nP u) k) 18 (12 + nP u) n) 0 2 (nP u + 1)).1 a j = _
    rw [up_o _ _ _ _ _ _ (by omega), up_o _ _ _ _ _ _ q3, up_o _ _ _ _ _ _ q2, up_o _ _ _ _ _ _ q1]
  refine ⟨⟨a1, a2, by rw [eP]; omega, a4⟩, ⟨fun j hj => ?_, fun j hj => ?_, fun j hj => ?_⟩, fun x hx => ?_, ⟨?_, ?_⟩, d1, d2⟩
  · have hj' : j < nF u := hj
    have e1 : cha (uPers u n p k) j = cha u j := g 1 j (by decide) (by omega) (by omega) (by omega)
    have e2 : nam (uPers u n p k) j = nam u j := g 18 j (by decide) (by omega) (by omega) (by omega)
    rw [e1, e2]; exact b1 j hj
  · have hj' : j < nPl u := hj
    have e1 : bea (uPers u n p k) j = bea u j := g 2 j (by decide) (by omega) (by omega) (by omega)
    have e2 : plc (uPers u n p k) j = plc u j := g 18 (6 + j) (by decide) (by omega) (by omega) (by omega)
    rw [e1, e2]; exact b2 j hj
  · rw [eP] at hj
    by_cases z : j = nP u
    · subst z
      have e1 : hom (uPers u n p k) (nP u) = p := by
        show (upV (upV (upV (upV u 3 (nP u) p) 4 (nP u) k) 18 (12 + nP u) n) 0 2 (nP u + 1)).1 3 (nP u) = p
        rw [up_o _ _ _ _ _ _ (by omega), up_o _ _ _ _ _ _ (by omega), up_o _ _ _ _ _ _ (by omega), up_e]
      have e2 : kno (uPers u n p k) (nP u) = k := by
        show (upV (upV (upV (upV u 3 (nP u) p) 4 (nP u) k) 18 (12 + nP u) n) 0 2 (nP u + 1)).1 4 (nP u) = k
        rw [up_o _ _ _ _ _ _ (by omega), up_o _ _ _ _ _ _ (by omega), up_e]
      have e3 : prs (uPers u n p k) (nP u) = n := by
        show (upV (upV (upV (upV u 3 (nP u) p) 4 (nP u) k) 18 (12 + nP u) n) 0 2 (nP u + 1)).1 18 (12 + nP u) = n
        rw [up_o _ _ _ _ _ _ (by omega), up_e]
      rw [e1, e2, e3]; exact ⟨hp, hk, hN⟩
    · have e1 : hom (uPers u n p k) j = hom u j := g 3 j (by decide) (by omega) (by omega) (by omega)
      have e2 : kno (uPers u n p k) j = kno u j := g 4 j (by decide) (by omega) (by omega) (by omega)
      have e3 : prs (uPers u n p k) j = prs u j := g 18 (12 + j) (by decide) (by omega) (by omega) (by omega)
      rw [e1, e2, e3]; exact b3 j (by omega)
  · have e1 : lawV (uPers u n p k) x = lawV u x := g 5 x (by decide) (by omega) (by omega) (by omega)
    have e2 : lat (uPers u n p k) x = lat u x := g 6 x (by decide) (by omega) (by omega) (by omega)
    have e3 : isc (uPers u n p k) x = isc u x := g 7 x (by decide) (by omega) (by omega) (by omega)
    have e4 : tol (uPers u n p k) x = tol u x := g 19 x (by decide) (by omega) (by omega) (by omega)
    rw [e1, e2, e3, e4]; exact c1 x hx
  · rw [show isc (uPers u n p k) 0 = isc u 0 from g 7 0 (by decide) (by omega) (by omega) (by omega)]; exact c2.1
  · rw [show tol (uPers u n p k) 1 = tol u 1 from g 19 1 (by decide) (by omega) (by omega) (by omega), show isc (uPers u n p k) 1 = isc u 1 from g 7 1 (by decide) (by omega) (by omega) (by omega)]; exact c2.2
theorem Vu_cock {u : eV} (h : Vu u) {c l t : Nat} (hc : c < 2) (hl : l ≤ 1) (ht : t ≤ 60) : Vu (uCock u c l t) := by
  obtain ⟨⟨a1, a2, a3, a4⟩, ⟨b1, b2, b3⟩, c1, c2, d1, d2⟩ := h
  have g : ∀ a j, ¬ (5 ≤ a ∧ a ≤ 7) → a ≠ 19 → (uCock u c l t).1 a j = u.1 a j := fun a j q0 q1 => by
    show (upV (upV (upV (upV u 5 c l) 6 c t) 7 c 1) 19 c 1).1 a j = _
    rw [up_o _ _ _ _ _ _ (by omega), up_o _ _ _ _ _ _ (by omega), up_o _ _ _ _ _ _ (by omega), up_o _ _ _ _ _ _ (by omega)]
  have k5 : ∀ x, lawV (uCock u c l t) x = if x = c then l else lawV u x := fun x => by
    show (upV (upV (upV (upV u 5 c l) 6 c t) 7 c 1) 19 c 1).1 5 x = _
    rw [up_o _ _ _ _ _ _ (by omega), up_o _ _ _ _ _ _ (by omega), up_o _ _ _ _ _ _ (by omega)]
    by_cases z : x = c
    · rw [if_pos z, z, up_e]
    · rw [if_neg z, up_o _ _ _ _ _ _ (by omega)]; rfl
  have k6 : ∀ x, lat (uCock u c l t) x = if x = c then t else lat u x := fun x => by
    show (upV (upV (upV (upV u 5 c l) 6 c t) 7 c 1) 19 c 1).1 6 x = _
    rw [up_o _ _ _ _ _ _ (by omega), up_o _ _ _ _ _ _ (by omega)]
    by_cases z : x = c
    · rw [if_pos z, z, up_e]
    · rw [if_neg z, up_o _ _ _ _ _ _ (by omega), up_o _ _ _ _ _ _ (by omega)]; rfl
  have k7 : ∀ x, isc (uCock u c l t) x = if x = c then 1 else isc u x := fun x => by
    show (upV (upV (upV (upV u 5 c l) 6 c t) 7 c 1) 19 c 1).1 7 x = _
    rw [up_o _ _ _ _ _ _ (by omega)]
    by_cases z : x = c
    · rw [if_pos z, z, up_e]
    · rw [if_neg z, up_o _ _ _ _ _ _ (by omega), up_o _ _ _ _ _ _ (by omega), up_o _ _ _ _ _ _ (by omega)]; rfl
  have k19 : ∀ x, tol (uCock u c l t) x = if x = c then 1 else tol u x := fun x => by
    show (upV (upV (upV (upV u 5 c l) 6 c t) 7 c 1) 19 c 1).1 19 x = _
    by_cases z : x = c
    · rw [if_pos z, z, up_e]
    · rw [if_neg z, up_o _ _ _ _ _ _ (by omega), up_o _ _ _ _ _ _ (by omega), up_o _ _ _ _ _ _ (by omega), up_o _ _ _ _ _ _ (by omega)]; rfl
  refine ⟨⟨a1, a2, a3, a4⟩, ⟨b1, b2, b3⟩, fun x hx => ?_, ⟨?_, ?_⟩, d1, d2⟩
  · rw [k5, k6, k7, k19]
    have := c1 x hx
    by_cases z : x = c
    · rw [if_pos z, if_pos z, if_pos z, if_pos z]; exact ⟨hl, ht, Nat.le_refl _, Nat.le_refl _⟩
    · rw [if_neg z, if_neg z, if_neg z, if_neg z]; exact this
  · rw [k7, c2.1]; split <;> rfl
  · rw [k19, k7, c2.2]
theorem Vu_comm {u : eV} (h : Vu u) {g : xG} (hn : nCm u < 4) (hD : vD (nF u) g) : Vu (uComm u g.2.2.2) := by
  obtain ⟨⟨a1, a2, a3, a4⟩, ⟨b1, b2, b3⟩, c1, c2, d1, d2⟩ := h
  have hW : (2 : Nat) ^ nF u ≤ 64 := Nat.pow_le_pow_right (n := 2) (i := nF u) (j := 6) (by decide) a1
  have eC : nCm (uComm u g.2.2.2) = nCm u + 1 := rfl
  have kc : ∀ k, cmS (uComm u g.2.2.2) k = if k = nCm u then woN 6 g.2.2.2 else cmS u k := fun k => by
    show (if 2 = 1 ∧ k = 0 then com u &&& woN (nF u) g.2.2.2 else if 2 = 2 ∧ k = nCm u then woN 6 g.2.2.2 else u.2 2 k) = _
    rw [if_neg (by omega)]
    by_cases z : k = nCm u
    · rw [if_pos ⟨rfl, z⟩, if_pos z]
    · rw [if_neg (fun q => z q.2), if_neg z]; rfl
  have t6 : ∀ w, w < 64 → tb (woN 6 g.2.2.2) w = !decide (g.2.2.2 w = 0) := fun w hw => by
    unfold woN
    rw [t_mk _ hw, decide_eq_true (show w < 2 ^ 6 from hw), Bool.true_and]
  have hmod : ∀ w, g.2.2.2 (w % 2 ^ nF u) = g.2.2.2 w := fun w => hD _ _ fun f hf => by
    rw [Nat.testBit_mod_two_pow, decide_eq_true hf, Bool.true_and]
  refine ⟨⟨a1, a2, a3, by rw [eC]; omega⟩, ⟨b1, b2, b3⟩, c1, c2, fun w hw => ?_, fun k hk w hw => ?_⟩
  · show tb (com u &&& woN (nF u) g.2.2.2) w = (decide (w < 2 ^ nF u) && decide (∀ k, k < nCm u + 1 → tb (cmS (uComm u g.2.2.2) k) w = true))
    rw [t_and, d1 w hw]
    have e1 : tb (woN (nF u) g.2.2.2) w = (decide (w < 2 ^ nF u) && !decide (g.2.2.2 w = 0)) := t_mk _ hw
    rw [e1]
    by_cases z : w < 2 ^ nF u
    · rw [decide_eq_true z, Bool.true_and, Bool.true_and, Bool.true_and]
      by_cases y : g.2.2.2 w = 0
      · rw [decide_eq_true y, Bool.not_true, Bool.and_false]
        refine (decide_eq_false fun q => ?_).symm
        have := q (nCm u) (by omega)
        rw [kc, if_pos rfl, t6 w hw, decide_eq_true y] at this
        cases this
      · rw [decide_eq_false y, Bool.not_false, Bool.and_true]
        refine decide_eq_decide.mpr ⟨fun q k hk => ?_, fun q k hk => ?_⟩
        · rw [kc]
          by_cases x : k = nCm u
          · rw [if_pos x, t6 w hw, decide_eq_false y]; rfl
          · rw [if_neg x]; exact q k (by omega)
        · have := q k (by omega)
          rw [kc, if_neg (by omega)] at this
          exact this
    · rw [decide_eq_false z]; rfl
  · have eF : nF (uComm u g.2.2.2) = nF u := rfl
    have hm : w % 2 ^ nF u < 64 := Nat.lt_of_le_of_lt (Nat.mod_le _ _) hw
    rw [eC] at hk
    rw [kc, eF]
    by_cases x : k = nCm u
    · rw [if_pos x, t6 w hw, t6 _ hm, hmod]
    · rw [if_neg x]; exact d2 k (by omega) w hw
