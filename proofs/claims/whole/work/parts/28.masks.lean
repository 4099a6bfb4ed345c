/-! ===== the class: masks of worlds ===== -/
theorem kd_of {a K L : Nat} (h : kk a = (K, L)) : kd a = K := (kk_l h).1
/-- the statics -/
def Ss (m : eM) : Prop := (∀ j, j < 6 → gL m 1 j = eFS j) ∧ ∀ j, j < 14 → gL m 2 j = eTK j
theorem Ss.fr {m m' : eM} {S : Nat → Nat → Bool} (h : Ss m) (f : Fr S m m') (h1 : ∀ j, S 1 j = false) (h2 : ∀ j, S 2 j = false) : Ss m' := ⟨fun j hj => (f.2.1 _ _ (h1 j)).trans (h.1 j hj), fun j hj => (f.2.1 _ _ (h2 j)).trans (h.2 j hj)⟩
theorem eFS_m : ∀ j, j < 6 → eFS j = mk fun w => w.testBit j := by decide +kernel
theorem LC_factSo_s {m : eM} (h : Ss m) (d : Nat) {f : Nat} (hf : f < 6) : LC_factSo d (nI f) m = yL (mk fun w => w.testBit f) m := by
  rw [LC_factSo_e, if_neg (nI_pos (by omega)), gl_1, al_1, toI, if_neg (by rw [n_le (by decide) (by omega)]; omega), ga_1 hf, n_cl (by omega), h.1 f hf, eFS_m f hf]
theorem LC_holds_s (d : Nat) (y : Int64) {k : Nat} (hk : k < 64) (m : eM) : LC_holds d y (nI k) m = yI (bb (tb y k)) m := by
  rw [LC_holds_e, bit_u hk]
  by_cases h : tb y k = true <;> simp [h, cmp0, bb]
theorem LC_sureness_s (d : Nat) (x y : Int64) (m : eM) : LC_sureness d x y m = yI (surN x y) m := by
  rw [LC_sureness_e]
  unfold surN
  simp only [cmp0]
  by_cases h1 : x = 0
  · rw [if_neg (fun z => z h1), if_pos h1]
  · rw [if_pos h1, if_neg h1]
    by_cases h2 : x &&& (y ^^^ -1) = 0
    · rw [if_neg (fun z => z h2), if_pos h2]
    · rw [if_pos h2, if_neg h2]
      by_cases h3 : x &&& y = 0
      · rw [if_neg (fun z => z h3), if_pos h3]
      · rw [if_pos h3, if_neg h3]
theorem Pa_factIs_s {v : eV} (hv : Va v) {p : Nat} {m : eM} (h : Pp v p m) (hS : Ss m) {D : Nat} (hD : 1 ≤ D) {f : Nat} (hf : f < 6) (b : Bool) : Pa_factIs D p (nI f) (bb b) m = yL (mk fun w => decide (w < 2 ^ nF v) && (w.testBit f == b)) m := by
  obtain ⟨d, rfl⟩ : ∃ d, D = d + 1 := ⟨D - 1, by omega⟩
  rw [Pa_factIs_e _ _ _ _ _ h.kd, Pa_allWorlds_s hv h, bL_y, LC_factSo_s hS d hf, bL_y, bL_y]
  unfold allM
  cases b
  · rw [bb_f, if_pos rfl, mk_not, mk_and]
    exact congrArg (yL · m) (mk_c fun i hi => by simp)
  · rw [bb_t, if_neg (by decide), mk_and]
    exact congrArg (yL · m) (mk_c fun i hi => by simp)
/-- alike in the facts k below n -/
def alk (k w0 w : Nat) : Nat → Bool
  | 0 => true
  | n + 1 => alk k w0 w n && (!k.testBit n || (w.testBit n == w0.testBit n))
theorem alk_i (k w0 w : Nat) : ∀ n, alk k w0 w n = true ↔ ∀ g, g < n → k.testBit g = true → w.testBit g = w0.testBit g
  | 0 => ⟨fun _ g hg => absurd hg (Nat.not_lt_zero g), fun _ => rfl⟩
  | n + 1 => by
    unfold alk
    rw [Bool.and_eq_true, alk_i k w0 w n]
    constructor
    · intro h g hg hk
      by_cases e : g = n
      · subst e
        have := h.2
        rw [hk] at this
        simpa using this
      · exact h.1 g (by omega) hk
    · intro h
      refine ⟨fun g hg => h g (by omega), ?_⟩
      by_cases hk : k.testBit n = true
      · rw [hk, h n (by omega) hk]; simp
      · rw [Bool.not_eq_true] at hk; rw [hk]; rfl
theorem and0_i {x k n : Nat} (hk : k < 2 ^ n) : x &&& k = 0 ↔ ∀ g, g < n → k.testBit g = true → x.testBit g = false := by
  constructor
  · intro h g _ hk
    have : (x &&& k).testBit g = false := by rw [h, Nat.zero_testBit]
    rw [Nat.testBit_and, hk, Bool.and_true] at this
    exact this
  · intro h
    apply Nat.eq_of_testBit_eq
    intro g
    rw [Nat.zero_testBit, Nat.testBit_and]
    by_cases hg : g < n
    · by_cases z : k.testBit g = true
      · rw [h g hg z]; rfl
      · rw [Bool.not_eq_true] at z; rw [z, Bool.and_false]
    · rw [Nat.testBit_lt_two_pow (x := k) (i := g) (Nat.lt_of_lt_of_le hk (Nat.pow_le_pow_right (by decide) (by omega))), Bool.and_false]
theorem alk_e {k w0 w n : Nat} (hk : k < 2 ^ n) : alk k w0 w n = decide ((w ^^^ w0) &&& k = 0) := by
  rw [Bool.eq_iff_iff, decide_eq_true_iff, alk_i, and0_i hk]
  constructor
  · intro h g hg z
    rw [Nat.testBit_xor, h g hg z, Bool.xor_self]
  · intro h g hg z
    have := h g hg z
    rw [Nat.testBit_xor] at this
    generalize w.testBit g = a at this ⊢
    generalize w0.testBit g = b at this ⊢
    revert this
    cases a <;> cases b <;> decide
theorem Pa_alike_8_s {v : eV} (hv : Va v) {p : Nat} {m : eM} (h : Pp v p m) (hS : Ss m) (d : Nat) {k w0 : Nat} (hk : k < 64) (hw : w0 < 64) : ∀ j f, f + j = nF v → Pa_alike_8 (d + 2) p (nI k) (nI w0) (mk fun w => decide (w < 2 ^ nF v) && alk k w0 w f) (nI f) m = yL (mk fun w => decide (w < 2 ^ nF v) && alk k w0 w (nF v)) m
  | 0, f, e => by
    have := hv.f
    rw [Pa_alike_8_e _ _ _ _ _ _ _ h.kd, h.2.2.1.1, if_pos (by rw [n_le (by omega) (by omega)]; omega), show nF v = f by omega]
  | j + 1, f, e => by
    have hF := hv.f
    have ih := Pa_alike_8_s hv h hS d hk hw j (f + 1) (by omega)
    rw [Pa_alike_8_e _ _ _ _ _ _ _ h.kd, h.2.2.1.1, if_neg (by rw [n_le (by omega) (by omega)]; omega)]
    have q0 := Pa_factIs_s hv h hS (show 1 ≤ d + 1 by omega) (show f < 6 by omega) false
    have q1 := Pa_factIs_s hv h hS (show 1 ≤ d + 1 by omega) (show f < 6 by omega) true
    rw [bb_f] at q0
    rw [bb_t] at q1
    simp only [q0, q1, bL_y, bitI (show k < 2 ^ 32 by omega) (show f < 32 by omega), bitI (show w0 < 2 ^ 32 by omega) (show f < 32 by omega), bb_1, nI_1, mk_and]
    by_cases z1 : k.testBit f = true
    · rw [if_neg (fun z => z z1)]
      by_cases z2 : w0.testBit f = true
      · rw [if_neg (fun z => z z2), ← ih]
        refine congrArg (fun z => Pa_alike_8 (d + 2) p (nI k) (nI w0) z (nI (f + 1)) m) (mk_c fun i hi => ?_)
        show _ = (decide (i < 2 ^ nF v) && (alk k w0 i f && (!k.testBit f || (i.testBit f == w0.testBit f))))
        rw [z1, z2]
        cases decide (i < 2 ^ nF v) <;> cases alk k w0 i f <;> simp
      · rw [if_pos z2, ← ih]
        refine congrArg (fun z => Pa_alike_8 (d + 2) p (nI k) (nI w0) z (nI (f + 1)) m) (mk_c fun i hi => ?_)
        show _ = (decide (i < 2 ^ nF v) && (alk k w0 i f && (!k.testBit f || (i.testBit f == w0.testBit f))))
        rw [Bool.not_eq_true] at z2
        rw [z1, z2]
        cases decide (i < 2 ^ nF v) <;> cases alk k w0 i f <;> simp
    · rw [if_pos z1, ← ih]
      refine congrArg (fun z => Pa_alike_8 (d + 2) p (nI k) (nI w0) z (nI (f + 1)) m) (mk_c fun i hi => ?_)
      show _ = (decide (i < 2 ^ nF v) && (alk k w0 i f && (!k.testBit f || (i.testBit f == w0.testBit f))))
      rw [Bool.not_eq_true] at z1
      rw [z1]
      simp
theorem Pa_alike_s {v : eV} (hv : Va v) {p : Nat} {m : eM} (h : Pp v p m) (hS : Ss m) {D : Nat} (hD : 2 ≤ D) {k w0 : Nat} (hk : k < 2 ^ nF v) (hw : w0 < 64) : Pa_alike D p (nI k) (nI w0) m = yL (mk fun w => decide (w < 2 ^ nF v) && decide ((w ^^^ w0) &&& k = 0)) m := by
  obtain ⟨d, rfl⟩ : ∃ d, D = d + 2 := ⟨D - 2, by omega⟩
  have hW := W_le hv
  have := Pa_alike_8_s hv h hS d (show k < 64 by omega) hw (nF v) 0 (by omega)
  rw [Pa_alike_e _ _ _ _ _ h.kd, Pa_allWorlds_s hv h, bL_y, show allM v = mk fun w => decide (w < 2 ^ nF v) && alk k w0 w 0 from mk_c fun i hi => (Bool.and_true _).symm]
  refine this.trans (congrArg (yL · m) (mk_c fun i hi => ?_))
  rw [alk_e hk]
/-! the closure by the facts that one doesn't know -/
noncomputable def rch (X : Int64) (k n w : Nat) : Bool := @decide (∃ u, u < 64 ∧ tb X u = true ∧ ∀ g, g < 6 → u.testBit g = w.testBit g ∨ (g < n ∧ k.testBit g = false)) (Classical.propDecidable _)
theorem rch_i (X : Int64) (k n w : Nat) : rch X k n w = true ↔ ∃ u, u < 64 ∧ tb X u = true ∧ ∀ g, g < 6 → u.testBit g = w.testBit g ∨ (g < n ∧ k.testBit g = false) := by
  unfold rch
  exact @decide_eq_true_iff _ (Classical.propDecidable _)
theorem eq_bits {u w : Nat} (hu : u < 64) (hw : w < 64) (h : ∀ g, g < 6 → u.testBit g = w.testBit g) : u = w := by
  apply Nat.eq_of_testBit_eq
  intro g
  by_cases z : g < 6
  · exact h g z
  · rw [Nat.testBit_lt_two_pow (x := u) (Nat.lt_of_lt_of_le hu (Nat.pow_le_pow_right (n := 2) (i := 6) (j := g) (by decide) (by omega))), Nat.testBit_lt_two_pow (x := w) (Nat.lt_of_lt_of_le hw (Nat.pow_le_pow_right (n := 2) (i := 6) (j := g) (by decide) (by omega)))]
theorem rch_0 (X : Int64) (k : Nat) : X = mk (rch X k 0) := mk_e fun w hw => by
  rw [Bool.eq_iff_iff, rch_i]
  constructor
  · intro h
    exact ⟨w, hw, h, fun g _ => Or.inl rfl⟩
  · rintro ⟨u, hu, h, z⟩
    rw [eq_bits hu hw fun g hg => (z g hg).resolve_right fun y => Nat.not_lt_zero g y.1] at h
    exact h
theorem flip_1 : ∀ f, f < 6 → ∀ w, w < 64 → w.testBit f = true → 2 ^ f ≤ w ∧ w - 2 ^ f = w ^^^ 2 ^ f ∧ (w - 2 ^ f).testBit f = false := by decide +kernel
theorem flip_2 : ∀ f, f < 6 → ∀ w, w < 64 → w.testBit f = true → 2 ^ f + w < 64 → (2 ^ f + w).testBit f = false := by decide +kernel
theorem flip_3 : ∀ f, f < 6 → ∀ w, w < 64 → w.testBit f = false → 2 ^ f + w = w ^^^ 2 ^ f ∧ (2 ^ f + w).testBit f = true ∧ 2 ^ f + w < 64 := by decide +kernel
theorem flip_4 : ∀ f, f < 6 → ∀ w, w < 64 → w.testBit f = false → 2 ^ f ≤ w → (w - 2 ^ f).testBit f = true := by decide +kernel
theorem flip_5 : ∀ f, f < 6 → ∀ w, w < 64 → w ^^^ 2 ^ f < 64 := by decide +kernel
theorem Pa_eitherWay_s {m : eM} (hS : Ss m) {D : Nat} (hD : 1 ≤ D) (y : Int64) {f : Nat} (hf : f < 6) : Pa_eitherWay D y (nI f) m = yL (mk fun w => tb y (w ^^^ 2 ^ f)) m := by
  obtain ⟨d, rfl⟩ : ∃ d, D = d + 1 := ⟨D - 1, by omega⟩
  rw [Pa_eitherWay_e]
  simp only [LC_factSo_s hS d hf, bL_y, mk_not, shl1 f (show f < 31 by omega)]
  refine congrArg (yL · m) (mk_e fun w hw => ?_)
  have h6 : 2 ^ f < 64 := Nat.pow_lt_pow_right (a := 2) (by decide) hf
  rw [t_or, t_ushr h6, t_shl h6 _ hw, t_and]
  by_cases z : w.testBit f = true
  · obtain ⟨a1, a2, a3⟩ := flip_1 f hf w hw z
    have a4 := flip_2 f hf w hw z
    have e1 : tb (mk fun w => w.testBit f) (2 ^ f + w) = false := by
      by_cases y : 2 ^ f + w < 64
      · rw [t_mk _ y, a4 y]
      · exact t_big (by omega)
    rw [e1, Bool.and_false, Bool.false_or, decide_eq_true a1, Bool.true_and, t_and, t_mk _ (Nat.lt_of_le_of_lt (Nat.sub_le _ _) hw), a3, a2]
    simp
  · rw [Bool.not_eq_true] at z
    obtain ⟨b1, b2, b3⟩ := flip_3 f hf w hw z
    have b4 := flip_4 f hf w hw z
    rw [t_mk _ b3, b2, Bool.and_true, b1]
    by_cases y : 2 ^ f ≤ w
    · rw [t_and, t_mk _ (Nat.lt_of_le_of_lt (Nat.sub_le _ _) hw), b4 y]; simp
    · rw [decide_eq_false y]; simp
theorem rch_s {X : Int64} {k f : Nat} (hf : f < 6) (hk : k.testBit f = false) : (mk (rch X k f) ||| mk fun w => tb (mk (rch X k f)) (w ^^^ 2 ^ f)) = mk (rch X k (f + 1)) := by
  rw [mk_or]
  refine mk_c fun w hw => ?_
  have hx : w ^^^ 2 ^ f < 64 := flip_5 f hf w hw
  rw [t_mk _ hx, Bool.eq_iff_iff, Bool.or_eq_true, rch_i, rch_i, rch_i]
  constructor
  · rintro (⟨u, h1, h2, h3⟩ | ⟨u, h1, h2, h3⟩)
    · exact ⟨u, h1, h2, fun g hg => (h3 g hg).elim Or.inl fun z => Or.inr ⟨by omega, z.2⟩⟩
    · refine ⟨u, h1, h2, fun g hg => ?_⟩
      by_cases e : g = f
      · subst e; exact Or.inr ⟨by omega, hk⟩
      · rcases h3 g hg with z | z
        · left
          rw [z, Nat.testBit_xor, Nat.testBit_two_pow_of_ne (Ne.symm e), Bool.xor_false]
        · exact Or.inr ⟨by omega, z.2⟩
  · rintro ⟨u, h1, h2, h3⟩
    by_cases e : u.testBit f = w.testBit f
    · left
      refine ⟨u, h1, h2, fun g hg => ?_⟩
      by_cases e2 : g = f
      · subst e2; exact Or.inl e
      · rcases h3 g hg with z | z
        · exact Or.inl z
        · exact Or.inr ⟨by omega, z.2⟩
    · right
      refine ⟨u, h1, h2, fun g hg => ?_⟩
      by_cases e2 : g = f
      · subst e2
        left
        rw [Nat.testBit_xor, Nat.testBit_two_pow_self]
        revert e
        cases u.testBit g <;> cases w.testBit g <;> decide
      · rcases h3 g hg with z | z
        · left; rw [z, Nat.testBit_xor, Nat.testBit_two_pow_of_ne (Ne.symm e2), Bool.xor_false]
        · exact Or.inr ⟨by omega, z.2⟩
theorem rch_k {X : Int64} {k f : Nat} (hk : k.testBit f = true) : mk (rch X k f) = mk (rch X k (f + 1)) := mk_c fun w _ => by
  rw [Bool.eq_iff_iff, rch_i, rch_i]
  constructor
  · rintro ⟨u, h1, h2, h3⟩
    exact ⟨u, h1, h2, fun g hg => (h3 g hg).elim Or.inl fun z => Or.inr ⟨by omega, z.2⟩⟩
  · rintro ⟨u, h1, h2, h3⟩
    refine ⟨u, h1, h2, fun g hg => (h3 g hg).elim Or.inl fun z => ?_⟩
    by_cases e : g = f
    · subst e; rw [hk] at z; cases z.2
    · exact Or.inr ⟨by omega, z.2⟩
theorem Pa_lies_26_s {v : eV} (hv : Va v) {p : Nat} {m : eM} (h : Pp v p m) (hS : Ss m) (d : Nat) (y1 : Int64) (x3 : Int32) {i : Nat} (hi : i < nP v) (X : Int64) : ∀ j f, f + j = nF v → Pa_lies_26 (d + 2) p y1 x3 (nI i) (mk (rch X (kno v i) f)) (nI f) m = yL (mk fun w => decide (w < 2 ^ nF v) && !rch X (kno v i) (nF v) w) m
  | 0, f, e => by
    have := hv.f
    rw [Pa_lies_26_e _ _ _ _ _ _ _ _ h.kd, h.2.2.1.1, if_pos (by rw [n_le (by omega) (by omega)]; omega), Pa_allWorlds_s hv h, bL_y, mk_not, show nF v = f by omega]
    unfold allM
    rw [mk_and, show nF v = f by omega]
  | j + 1, f, e => by
    have hF := hv.f
    have hW := W_le hv
    have hk := hv.kn hi
    have ih := Pa_lies_26_s hv h hS d y1 x3 hi X j (f + 1) (by omega)
    rw [Pa_lies_26_e _ _ _ _ _ _ _ _ h.kd, h.2.2.1.1, if_neg (by rw [n_le (by omega) (by omega)]; omega), Pa_known_s hv h (show 1 ≤ d + 1 by omega) hi, bI_y]
    simp only [bitI (show kno v i < 2 ^ 32 by omega) (show f < 32 by omega), bb_0, Pa_eitherWay_s hS (show 1 ≤ d + 1 by omega) _ (show f < 6 by omega), bL_y, nI_1]
    by_cases z : (kno v i).testBit f = true
    · rw [if_pos (by rw [z]; decide), rch_k z]
      exact ih
    · rw [Bool.not_eq_true] at z
      rw [if_neg (by rw [z]; decide), rch_s (by omega) z]
      exact ih
/-- what the class's closure says is what the reference's search says -/
theorem rch_e {v : eV} (hv : Va v) {k w : Nat} (hk : k < 2 ^ nF v) (hw : w < 2 ^ nF v) (s : Int64) : (!rch (s &&& com v) k (nF v) w) = decide (s &&& mk (likeV v k w) = 0) := by
  have hF := hv.f
  have hW := W_le hv
  rw [Bool.eq_iff_iff, Bool.not_eq_true', decide_eq_true_iff, eq0_iff]
  constructor
  · intro h u hu
    rw [t_and, t_mk _ hu]
    by_cases z1 : tb s u = true
    · by_cases z2 : likeV v k w u = true
      · exfalso
        have : rch (s &&& com v) k (nF v) w = true := by
          unfold likeV at z2
          simp only [Bool.and_eq_true, decide_eq_true_iff] at z2
          obtain ⟨q1, q2, q3⟩ := z2
          rw [rch_i]
          refine ⟨u, hu, by rw [t_and, z1, q2]; rfl, fun g hg => ?_⟩
          by_cases gn : g < nF v
          · by_cases kg : k.testBit g = true
            · left
              have := (and0_i hk).mp q3 g gn kg
              rw [Nat.testBit_xor] at this
              revert this
              cases u.testBit g <;> cases w.testBit g <;> decide
            · exact Or.inr ⟨gn, by rwa [Bool.not_eq_true] at kg⟩
          · left
            rw [Nat.testBit_lt_two_pow (x := u) (Nat.lt_of_lt_of_le q1 (Nat.pow_le_pow_right (by decide) (by omega))), Nat.testBit_lt_two_pow (x := w) (Nat.lt_of_lt_of_le hw (Nat.pow_le_pow_right (by decide) (by omega)))]
        rw [this] at h; cases h
      · rw [Bool.not_eq_true] at z2; rw [z2, Bool.and_false]
    · rw [Bool.not_eq_true] at z1; rw [z1, Bool.false_and]
  · intro h
    by_cases z : rch (s &&& com v) k (nF v) w = true
    · exfalso
      obtain ⟨u, hu, h2, h3⟩ := (rch_i _ _ _ _).mp z
      rw [t_and, Bool.and_eq_true] at h2
      have hun : u < 2 ^ nF v := by
        rcases Nat.lt_or_ge u (2 ^ nF v) with y | y
        · exact y
        · rw [hv.cw y] at h2; cases h2.2
      have := h u hu
      rw [t_and, t_mk _ hu, h2.1, Bool.true_and] at this
      unfold likeV at this
      rw [decide_eq_true hun, h2.2, Bool.true_and, Bool.true_and, decide_eq_false_iff_not] at this
      apply this
      rw [and0_i hk]
      intro g hg kg
      rw [Nat.testBit_xor]
      rcases h3 g (by omega) with y | y
      · rw [y, Bool.xor_self]
      · rw [kg] at y; cases y.2
    · rwa [Bool.not_eq_true] at z
/-- the lies of what one says, so in the worlds s, by a law -/
def lieG (v : eV) (s : Int64) (l i : Nat) : Int64 := mk fun w => decide (w < 2 ^ nF v) && (if l = 0 then !tb s w else decide (s &&& mk (likeV v (kno v i) w) = 0))
theorem Pa_lies_s {v : eV} (hv : Va v) {p : Nat} {m : eM} (h : Pp v p m) (hS : Ss m) {D : Nat} (hD : 2 ≤ D) (s : Int64) {i l : Nat} (hi : i < nP v) (hl : l < 2) : Pa_lies D p s (nI l) (nI i) m = yL (lieG v s l i) m := by
  obtain ⟨d, rfl⟩ : ∃ d, D = d + 2 := ⟨D - 2, by omega⟩
  rw [Pa_lies_e _ _ _ _ _ _ h.kd]
  unfold lieG
  by_cases z : l = 0
  · subst z
    rw [if_neg (by decide), Pa_allWorlds_s hv h, bL_y]
    unfold allM
    refine congrArg (yL · m) (mk_e fun w hw => ?_)
    rw [t_and, t_mk _ hw, t_not hw, if_pos rfl]
  · rw [if_pos (by rw [n_eq0 (by omega)]; exact z)]
    have := Pa_lies_26_s hv h hS d s (nI l) hi (s &&& com v) (nF v) 0 (by omega)
    rw [← rch_0] at this
    rw [h.2.2.2.2.2.2.2.2]
    refine this.trans (congrArg (yL · m) (mk_c fun w hw => ?_))
    rw [if_neg z]
    by_cases y : w < 2 ^ nF v
    · rw [rch_e hv (hv.kn hi) y]
    · rw [decide_eq_false y, Bool.false_and, Bool.false_and]
theorem lieM_G {v : eV} {j l : Nat} (h : isq v j = 0) : lieM v j l = lieG v (soV v j) l (who v j) := by
  unfold lieM lieG lieV
  rw [h]
  rfl
theorem lieM_q {v : eV} {j l : Nat} (h : isq v j = 1) : lieM v j l = 0 := by
  unfold lieM lieV
  rw [h]
  exact (mk_f fun i _ => by simp).symm
