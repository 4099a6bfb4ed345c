/-! ===== how worlds fall into bearings: counts ===== -/
def mxN (f : Nat → Nat) : Nat → Nat
  | 0 => 0
  | n + 1 => if mxN f n < f n then f n else mxN f n
theorem mxN_ge {f : Nat → Nat} : ∀ {n k : Nat}, k < n → f k ≤ mxN f n
  | 0, k, h => absurd h (Nat.not_lt_zero k)
  | n + 1, k, h => by
    unfold mxN
    by_cases e : k = n
    · subst e
      split <;> omega
    · have := mxN_ge (f := f) (show k < n by omega)
      split <;> omega
theorem mxN_in {f : Nat → Nat} : ∀ {n : Nat}, mxN f n = 0 ∨ ∃ k, k < n ∧ f k = mxN f n
  | 0 => Or.inl rfl
  | n + 1 => by
    unfold mxN
    split
    · exact Or.inr ⟨n, by omega, rfl⟩
    · rcases mxN_in (f := f) (n := n) with z | ⟨k, h1, h2⟩
      · exact Or.inl z
      · exact Or.inr ⟨k, by omega, h2⟩
theorem mxN_eq {f : Nat → Nat} {n M : Nat} (h1 : ∀ k, k < n → f k ≤ M) (h2 : M = 0 ∨ ∃ k, k < n ∧ f k = M) : mxN f n = M := by
  have a : M ≤ mxN f n := by
    rcases h2 with z | ⟨k, hk, e⟩
    · omega
    · rw [← e]; exact mxN_ge hk
  rcases mxN_in (f := f) (n := n) with z | ⟨k, hk, e⟩
  · omega
  · have := h1 k hk; omega
theorem cnt_pos {p : Nat → Bool} : ∀ {n : Nat}, 0 < cnt p n ↔ ∃ k, k < n ∧ p k = true
  | 0 => ⟨fun h => absurd h (Nat.lt_irrefl 0), fun ⟨k, h, _⟩ => absurd h (Nat.not_lt_zero k)⟩
  | n + 1 => by
    have ih := cnt_pos (p := p) (n := n)
    unfold cnt
    by_cases z : p n = true
    · rw [if_pos z]
      exact ⟨fun _ => ⟨n, by omega, z⟩, fun _ => by omega⟩
    · rw [if_neg z, Nat.add_zero, ih]
      constructor
      · rintro ⟨k, h, e⟩; exact ⟨k, by omega, e⟩
      · rintro ⟨k, h, e⟩
        by_cases q : k = n
        · subst q; exact absurd e z
        · exact ⟨k, by omega, e⟩
theorem cnt_add {p q r : Nat → Bool} : ∀ {n : Nat}, (∀ k, k < n → (r k = true ↔ p k = true ∨ q k = true)) → (∀ k, k < n → ¬ (p k = true ∧ q k = true)) → cnt r n = cnt p n + cnt q n
  | 0, _, _ => rfl
  | n + 1, h1, h2 => by
    have ih := cnt_add (n := n) (fun k hk => h1 k (by omega)) (fun k hk => h2 k (by omega))
    have a := h1 n (by omega)
    have b := h2 n (by omega)
    unfold cnt
    rw [ih]
    by_cases zp : p n = true
    · by_cases zq : q n = true
      · exact absurd ⟨zp, zq⟩ b
      · rw [if_pos (a.mpr (Or.inl zp)), if_pos zp, if_neg zq]; omega
    · by_cases zq : q n = true
      · rw [if_pos (a.mpr (Or.inr zq)), if_neg zp, if_pos zq]; omega
      · rw [if_neg (fun z => (a.mp z).elim zp zq), if_neg zp, if_neg zq]; rfl
theorem cnt_one {p : Nat → Bool} {k : Nat} : ∀ {n : Nat}, k < n → p k = true → (∀ i, i < n → p i = true → i = k) → cnt p n = 1
  | 0, h, _, _ => absurd h (Nat.not_lt_zero k)
  | n + 1, h, hk, hu => by
    unfold cnt
    by_cases e : k = n
    · subst e
      rw [cnt_f fun i hi => by
        cases z : p i
        · rfl
        · have := hu i (by omega) z; omega, if_pos hk]
    · rw [cnt_one (show k < n by omega) hk fun i hi => hu i (by omega), if_neg fun z => by
        have := hu n (by omega) z
        exact e this.symm]
/-- worlds of x whose mark is b -/
def cb (x : Int64) (B : Nat → Nat) (n b : Nat) : Nat := cnt (fun w => tb x w && decide (B w = b)) n
/-- the first world of its mark -/
def fst1 (x : Int64) (B : Nat → Nat) (w : Nat) : Bool := tb x w && decide (∀ u, u < w → tb x u = true → B u ≠ B w)
def mxB (x : Int64) (B : Nat → Nat) (n : Nat) : Nat := mxN (cb x B n) 360
def kiB (x : Int64) (B : Nat → Nat) (n : Nat) : Nat := cnt (fst1 x B) n
theorem cb_s (x : Int64) (B : Nat → Nat) (n b : Nat) : cb x B (n + 1) b = cb x B n b + (if (tb x n && decide (B n = b)) = true then 1 else 0) := rfl
theorem cb_0 (x : Int64) (B : Nat → Nat) {n w : Nat} : cb x B n (B w) = 0 ↔ ∀ u, u < n → tb x u = true → B u ≠ B w := by
  constructor
  · intro h u hu hx e
    have : 0 < cb x B n (B w) := cnt_pos.mpr ⟨u, hu, by rw [hx, decide_eq_true e]; rfl⟩
    omega
  · intro h
    exact cnt_f fun u hu => by
      cases z : tb x u
      · rfl
      · rw [decide_eq_false (h u hu z)]; rfl
theorem mxB_s {x : Int64} {B : Nat → Nat} {n : Nat} (hx : tb x n = true) (hB : B n < 360) : mxB x B (n + 1) = if mxB x B n < cb x B n (B n) + 1 then cb x B n (B n) + 1 else mxB x B n := by
  have hc : ∀ b, cb x B (n + 1) b = cb x B n b + (if B n = b then 1 else 0) := fun b => by
    rw [cb_s, hx, Bool.true_and]
    by_cases z : B n = b
    · rw [if_pos (decide_eq_true z), if_pos z]
    · rw [if_neg (by rw [decide_eq_false z]; decide), if_neg z]
  refine mxN_eq (fun b hb => ?_) ?_
  · rw [hc]
    have h1 : cb x B n b ≤ mxB x B n := mxN_ge hb
    by_cases z : B n = b
    · rw [if_pos z, ← z]
      split <;> omega
    · rw [if_neg z]
      split <;> omega
  · right
    by_cases z : mxB x B n < cb x B n (B n) + 1
    · rw [if_pos z]
      exact ⟨B n, hB, by rw [hc, if_pos rfl]⟩
    · rw [if_neg z]
      rcases mxN_in (f := cb x B n) (n := 360) with y | ⟨k, hk, e⟩
      · have h1 : cb x B n (B n) ≤ mxB x B n := mxN_ge hB
        have y' : mxB x B n = 0 := y
        omega
      · refine ⟨k, hk, ?_⟩
        rw [hc, e]
        by_cases q : B n = k
        · subst q
          have e' : cb x B n (B n) = mxB x B n := e
          omega
        · rw [if_neg q]; rfl
theorem mxB_k {x : Int64} {B : Nat → Nat} {n : Nat} (hx : ¬ tb x n = true) : mxB x B (n + 1) = mxB x B n := by
  unfold mxB
  refine congrArg (fun f => mxN f 360) (funext fun b => ?_)
  rw [cb_s, if_neg (by rw [Bool.not_eq_true] at hx; rw [hx, Bool.false_and]; decide)]
  rfl
theorem kiB_s {x : Int64} {B : Nat → Nat} {n : Nat} (hx : tb x n = true) : kiB x B (n + 1) = kiB x B n + (if cb x B n (B n) = 0 then 1 else 0) := by
  show kiB x B n + (if fst1 x B n = true then 1 else 0) = _
  unfold fst1
  rw [hx, Bool.true_and]
  by_cases z : cb x B n (B n) = 0
  · rw [if_pos (decide_eq_true (cb_0 x B |>.mp z)), if_pos z]
  · rw [if_neg (fun q => z (cb_0 x B |>.mpr (of_decide_eq_true q))), if_neg z]
theorem kiB_k {x : Int64} {B : Nat → Nat} {n : Nat} (hx : ¬ tb x n = true) : kiB x B (n + 1) = kiB x B n := by
  show kiB x B n + (if fst1 x B n = true then 1 else 0) = _
  unfold fst1
  rw [Bool.not_eq_true] at hx
  rw [hx, Bool.false_and]
  rfl
/-! the class's groups: G q holds what F w = q; F tells worlds apart as B does -/
theorem grp_mx {x : Int64} {B F : Nat → Nat} (hF : ∀ w, w < 64 → F w < 7) (hB : ∀ w, w < 64 → B w < 360) (hFB : ∀ u w, u < 64 → w < 64 → (F u = F w ↔ B u = B w)) : mxN (fun q => cnt (fun w => tb x w && decide (F w = q)) 64) 7 = mxB x B 64 := by
  have key : ∀ w, w < 64 → cnt (fun u => tb x u && decide (F u = F w)) 64 = cb x B 64 (B w) := fun w hw => cnt_c fun u hu => by
    cases tb x u
    · rfl
    · rw [Bool.true_and, Bool.true_and]; exact decide_eq_decide.mpr (hFB u w hu hw)
  refine mxN_eq (fun q hq => ?_) ?_
  · rcases Nat.eq_zero_or_pos (cnt (fun w => tb x w && decide (F w = q)) 64) with z | z
    · show cnt (fun w => tb x w && decide (F w = q)) 64 ≤ _
      omega
    · obtain ⟨w, hw, e⟩ := cnt_pos.mp z
      rw [Bool.and_eq_true, decide_eq_true_iff] at e
      show cnt (fun w => tb x w && decide (F w = q)) 64 ≤ _
      rw [← e.2, key w hw]
      exact mxN_ge (hB w hw)
  · rcases mxN_in (f := cb x B 64) (n := 360) with z | ⟨b, hb, e⟩
    · exact Or.inl z
    · rcases Nat.eq_zero_or_pos (cb x B 64 b) with y | y
      · left
        show mxN (cb x B 64) 360 = 0
        rw [← e, y]
      · right
        obtain ⟨w, hw, e2⟩ := cnt_pos.mp y
        rw [Bool.and_eq_true, decide_eq_true_iff] at e2
        refine ⟨F w, hF w hw, ?_⟩
        show cnt (fun u => tb x u && decide (F u = F w)) 64 = mxB x B 64
        rw [key w hw, e2.2, e]
        rfl
theorem grp_ki {x : Int64} {B F : Nat → Nat} (hF : ∀ w, w < 64 → F w < 7) (hFB : ∀ u w, u < 64 → w < 64 → (F u = F w ↔ B u = B w)) : cnt (fun q => !decide ((mk fun w => tb x w && decide (F w = q)) = 0)) 7 = kiB x B 64 := by
  have key : ∀ n, n ≤ 7 → cnt (fun q => !decide ((mk fun w => tb x w && decide (F w = q)) = 0)) n = cnt (fun w => fst1 x B w && decide (F w < n)) 64 := by
    intro n
    induction n with
    | zero => intro _; exact (cnt_f fun w _ => by rw [decide_eq_false (Nat.not_lt_zero _), Bool.and_false]).symm
    | succ n ih =>
      intro hn
      have hsum : cnt (fun w => fst1 x B w && decide (F w < n + 1)) 64 = cnt (fun w => fst1 x B w && decide (F w < n)) 64 + cnt (fun w => fst1 x B w && decide (F w = n)) 64 := by
        refine cnt_add (fun w _ => ?_) (fun w _ => ?_)
        · show (fst1 x B w && decide (F w < n + 1)) = true ↔ (fst1 x B w && decide (F w < n)) = true ∨ (fst1 x B w && decide (F w = n)) = true
          simp only [Bool.and_eq_true, decide_eq_true_iff]
          constructor
          · rintro ⟨p, q⟩
            rcases (by omega : F w < n ∨ F w = n) with y | y
            · exact Or.inl ⟨p, y⟩
            · exact Or.inr ⟨p, y⟩
          · rintro (⟨p, q⟩ | ⟨p, q⟩)
            · exact ⟨p, by omega⟩
            · exact ⟨p, by omega⟩
        · show ¬ ((fst1 x B w && decide (F w < n)) = true ∧ (fst1 x B w && decide (F w = n)) = true)
          simp only [Bool.and_eq_true, decide_eq_true_iff]
          rintro ⟨⟨_, p⟩, _, q⟩
          omega
      show cnt _ n + _ = _
      rw [ih (by omega), hsum]
      show _ + (if (!decide ((mk fun w => tb x w && decide (F w = n)) = 0)) = true then 1 else 0) = _
      refine congrArg (cnt (fun w => fst1 x B w && decide (F w < n)) 64 + ·) ?_
      · by_cases z : (mk fun w => tb x w && decide (F w = n)) = 0
        · rw [decide_eq_true z]
          refine (cnt_f fun w hw => ?_).symm
          have := (eq0_iff _).mp z w hw
          rw [t_mk _ hw] at this
          unfold fst1
          cases q : tb x w
          · rfl
          · rw [q, Bool.true_and] at this
            rw [this, Bool.and_false]
        · rw [decide_eq_false z]
          -- the first world of the group
          have ex : ∃ w, w < 64 ∧ (tb x w = true ∧ F w = n) := Classical.byContradiction fun no => z ((eq0_iff _).mpr fun w hw => by
            rw [t_mk _ hw]
            cases q : tb x w
            · rfl
            · rw [Bool.true_and]
              exact decide_eq_false fun e => no ⟨w, hw, q, e⟩)
          have lst : ∀ N, (∃ w, w < N ∧ (tb x w = true ∧ F w = n)) → ∃ w, w < N ∧ (tb x w = true ∧ F w = n) ∧ ∀ u, u < w → ¬ (tb x u = true ∧ F u = n) := by
            intro N
            induction N with
            | zero => rintro ⟨w, h, _⟩; exact absurd h (Nat.not_lt_zero w)
            | succ N ihN =>
              rintro ⟨w, h, e⟩
              by_cases q : ∃ w, w < N ∧ (tb x w = true ∧ F w = n)
              · obtain ⟨w, a, b⟩ := ihN q
                exact ⟨w, by omega, b⟩
              · exact ⟨w, h, e, fun u hu z => q ⟨u, by omega, z⟩⟩
          obtain ⟨w, hw, ⟨a, b⟩, c⟩ := lst 64 ex
          refine (cnt_one (k := w) hw ?_ fun i hi e => ?_).symm
          · show (fst1 x B w && decide (F w = n)) = true
            unfold fst1
            rw [a, decide_eq_true b, decide_eq_true (show ∀ u, u < w → tb x u = true → B u ≠ B w from fun u hu h e => c u hu ⟨h, ((hFB u w (by omega) hw).mpr e).trans b⟩)]
            rfl
          · have e : (fst1 x B i && decide (F i = n)) = true := e
            unfold fst1 at e
            simp only [Bool.and_eq_true, decide_eq_true_iff] at e
            obtain ⟨⟨e1, e2⟩, e3⟩ := e
            rcases Nat.lt_trichotomy i w with y | y | y
            · exact absurd ⟨e1, e3⟩ (c i y)
            · exact y
            · exact absurd ((hFB w i hw hi).mp (b.trans e3.symm)) (e2 w y a)
  rw [key 7 (Nat.le_refl _)]
  unfold kiB
  exact cnt_c fun w hw => by rw [decide_eq_true (hF w hw), Bool.and_true]
