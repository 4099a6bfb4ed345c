/-! ===== the class reads a parish: the lines ===== -/
def liC (s : eTp) (p : Nat) (m : eM) (F : oX) (o : xL) : Prop := (∀ r, o = .inr r → ∃ m', Fr (sPr p) m m' ∧ F = yI 1 m' ∧ PC s p r.2 r.1 m') ∧ (∀ e, o = .inl e → ∃ m', Fr (sPr p) m m' ∧ F = yI 0 m' ∧ gI m' 4 8 = nI e)
theorem liC.up {s : eTp} {p : Nat} {m m1 : eM} {F : oX} {o : xL} (f : Fr (sPr p) m m1) (h : liC s p m1 F o) : liC s p m F o :=
  ⟨fun r q => by obtain ⟨m', a, b, c⟩ := h.1 r q; exact ⟨m', f.tr a, b, c⟩, fun e q => by obtain ⟨m', a, b, c⟩ := h.2 e q; exact ⟨m', f.tr a, b, c⟩⟩
theorem li_e {s : eTp} {p : Nat} {m m1 : eM} {F : oX} {e : Nat} (f : Fr (sPr p) m m1) (hF : F = yI 0 m1) (h8 : gI m1 4 8 = nI e) : liC s p m F (.inl e) := ⟨fun r q => (by cases q), fun e q => (by cases q; exact ⟨m1, f, hF, h8⟩)⟩
theorem li_re {s : eTp} {p : Nat} {u : eV} {m : eM} {R : oX} {K : Int32 → eM → oX} {o : Sum Nat Nat} {f : Nat → xL} (h : reC s p u m R o) (h1 : ∀ b' m', PC s p u b' m' → o = .inr b' → liC s p m' (K 1 m') (f b')) (h0 : ∀ m', K 0 m' = yI 0 m') : liC s p m (bI R K) (sb o f) := by
  cases z : o with
  | inl e =>
    obtain ⟨m1, f1, e1, r1⟩ := h.2 e z
    rw [e1, bI_y, h0]
    exact li_e f1 rfl r1
  | inr b' =>
    obtain ⟨m1, f1, e1, c1⟩ := h.1 b' z
    rw [e1, bI_y]
    exact (h1 b' m1 c1 z).up f1
theorem li_nu {s : eTp} {p b : Nat} {u : eV} {m : eM} {K : Int32 → eM → oX} {f : Nat → xL} (h : PC s p u b m) {D : Nat} (hD : 1 ≤ D) {n : Nat} (hn : n < 10000) (h1 : ∀ b', rqN s n b = .inr b' → tK s b = 3 → tN s b ≤ n → b' = tX s b → liC s p m (K 1 m) (f b')) (h0 : ∀ m', K 0 m' = yI 0 m') : liC s p m (bI (Ta_numberUpTo D 4 (nI n) m) K) (sb (rqN s n b) f) := by
  obtain ⟨a1, a2⟩ := h.N hD hn
  cases z : rqN s n b with
  | inl e =>
    obtain ⟨m1, f1, e1, r1⟩ := a2 e z
    rw [e1, bI_y, h0]
    exact li_e f1 rfl r1
  | inr b' =>
    obtain ⟨i1, i2, i3⟩ := rqN_i z
    rw [a1 b' z, bI_y]
    exact h1 b' z i1 i2 i3
theorem li_st {s : eTp} {p b : Nat} {u : eV} {m : eM} {K : eM → oX} {o : xL} (h : PC s p u b m) {D : Nat} (hD : 1 ≤ D) (h1 : ∀ m', PC s p u (tX s b) m' → liC s p m' (K m') o) : liC s p m (bV (Ta_step D 4 m) K) o := by
  obtain ⟨m1, f1, e1, c1⟩ := h.st hD
  rw [e1, bV_y]
  exact (h1 m1 c1).up f1
theorem li_ad {s : eTp} {p b : Nat} {u' : eV} {m : eM} {R : oX} (h : ∃ m', Fr (sPr p) m m' ∧ R = yV m' ∧ PC s p u' b m') : liC s p m (bV R fun m' => yI 1 m') (.inr (b, u')) := by
  obtain ⟨m1, f1, e1, c1⟩ := h
  rw [e1, bV_y]
  exact ⟨fun r q => (by cases q; exact ⟨m1, f1, rfl, c1⟩), fun e q => (by cases q)⟩
theorem k0a {A B : oX} : (if ¬ (0 : Int32) = 0 then A else B) = B := if_neg fun q => q rfl
theorem k0b {A B : oX} : (if (0 : Int32) = 0 then B else A) = B := if_pos rfl
theorem k1a {A B : oX} : (if ¬ (1 : Int32) = 0 then A else B) = A := if_pos ten1
theorem k1b {A B : oX} : (if (1 : Int32) = 0 then B else A) = A := if_neg ten1
theorem w_ch : (109299962372965 : Int64) = nm8 47328224 := by decide +kernel
theorem w_be : (27696016923389543 : Int64) = nm8 847478194 := by decide +kernel
theorem w_at : (24948 : Int64) = nm8 47 := by decide +kernel
theorem w_kn : (461414299507 : Int64) = nm8 6132988 := by decide +kernel
theorem w_la : (7102839 : Int64) = nm8 8798 := by decide +kernel
theorem w_lt : (1818326117 : Int64) = nm8 237470 := by decide +kernel
theorem w_fa : (1717658484 : Int64) = nm8 118928 := by decide +kernel
theorem w_pl : (482854658917 : Int64) = nm8 8740067 := by decide +kernel
theorem w_pe : (123581014175598 : Int64) = nm8 232608281 := by decide +kernel
theorem w_co : (109330228408174 : Int64) = nm8 51284111 := by decide +kernel
theorem w_ck : (1668244331 : Int64) = nm8 70076 := by decide +kernel
theorem c59 : (59 : Int32) = nI 59 := rfl
theorem Pa_readFact_s {s : eTp} {p b : Nat} {u : eV} {m : eM} (h : PC s p u b m) {D : Nat} (hD : 5 ≤ D) : liC s p m (Pa_readFact D p 4 m) (lnF s u b) := by
  obtain ⟨d, rfl⟩ : ∃ d, D = d + 1 := ⟨D - 1, by omega⟩
  rw [Pa_readFact_e _ _ _ _ h.kd kd_4, h.pp.2.2.1.1]
  unfold lnF
  refine li_re (h.sl (D := d) (by omega) h.2.2.2.2.1.1.1) (fun b1 m1 c1 z1 => ?_) (fun m' => k0a)
  obtain ⟨i1, i2, i3, i4⟩ := stL_i z1
  have hk : tK s b1 = 2 := by rw [i4]; exact (tkN_k i2).1
  have hw := tW_lt hk
  rw [k1a, Ta_word_s c1.2.1 hk, bL_y]
  refine li_st c1 (by omega) fun m2 c2 => ?_
  rw [w_ch, Ta_isWord_s c2.2.1 (by decide), bI_y]
  by_cases z : tkW s (tX s b1) 47328224 = true
  · rw [z, if_neg bt0, if_pos rfl]
    refine li_st c2 (by omega) fun m3 c3 => ?_
    rw [show (10 : Int32) = nI 10 from rfl]
    refine li_nu c3 (by omega) (by decide) (fun b4 z4 n3 n4 n5 => ?_) (fun m' => k0a)
    rw [k1a, Ta_number_s c3.2.1 n3, bI_y]
    refine li_st c3 (by omega) fun m4 c4 => ?_
    rw [← n5] at c4
    rw [c59]
    refine li_re (c4.S (D := d) (by omega) (by decide)) (fun b5 m5 c5 z5 => ?_) (fun m' => k0a)
    rw [k1a]
    exact li_ad (c5.aF i1 n4 hw d)
  · rw [Bool.eq_false_iff.mpr z, if_pos bf0, if_neg (by decide), c59]
    refine li_re (c2.S (D := d) (by omega) (by decide)) (fun b5 m5 c5 z5 => ?_) (fun m' => k0a)
    rw [k1a, show (5 : Int32) = nI 5 from rfl]
    exact li_ad (c5.aF i1 (by decide) hw d)
theorem Pa_readPlace_s {s : eTp} {p b : Nat} {u : eV} {m : eM} (h : PC s p u b m) {D : Nat} (hD : 5 ≤ D) : liC s p m (Pa_readPlace D p 4 m) (lnPl s u b) := by
  obtain ⟨d, rfl⟩ : ∃ d, D = d + 1 := ⟨D - 1, by omega⟩
  rw [Pa_readPlace_e _ _ _ _ h.kd kd_4, h.pp.2.2.1.2.1]
  unfold lnPl
  refine li_re (h.sl (D := d) (by omega) h.2.2.2.2.1.1.2.1) (fun b1 m1 c1 z1 => ?_) (fun m' => k0a)
  obtain ⟨i1, i2, i3, i4⟩ := stL_i z1
  have hk : tK s b1 = 2 := by rw [i4]; exact (tkN_k i2).1
  have hw := tW_lt hk
  rw [k1a, Ta_word_s c1.2.1 hk, bL_y]
  refine li_st c1 (by omega) fun m2 c2 => ?_
  rw [w_be]
  refine li_re (c2.W (D := d) (by omega) (by decide)) (fun b3 m3 c3 z3 => ?_) (fun m' => k0b)
  rw [k1b, show (359 : Int32) = nI 359 from rfl]
  refine li_nu c3 (by omega) (by decide) (fun b4 z4 n3 n4 n5 => ?_) (fun m' => k0a)
  rw [k1a, Ta_number_s c3.2.1 n3, bI_y]
  refine li_st c3 (by omega) fun m4 c4 => ?_
  rw [← n5] at c4
  rw [c59]
  refine li_re (c4.S (D := d) (by omega) (by decide)) (fun b5 m5 c5 z5 => ?_) (fun m' => k0a)
  rw [k1a]
  exact li_ad (c5.aP i1 (by omega) hw d)
theorem Pa_readTold_s {s : eTp} {p b : Nat} {u : eV} {m : eM} (h : PC s p u b m) {D : Nat} (hD : 2 ≤ D) {a n : Nat} {N : Nat → Nat} (hf : ∀ d, tkN s b = true → Pa_find d a (nI n) (nm8 (tW s b)) m = yI (pO (fnd N n (tW s b))) m) (hn : n ≤ 6) : (tkN s b = false → ∃ m', Fr (sPr p) m m' ∧ Pa_readTold D 4 a (nI n) m = yI (-1) m' ∧ gI m' 4 8 = nI (er s b 1)) ∧ (tkN s b = true → fnd N n (tW s b) = none → ∃ m', Fr (sPr p) m m' ∧ Pa_readTold D 4 a (nI n) m = yI (-1) m' ∧ gI m' 4 8 = nI (er s b 2)) ∧ (∀ k, tkN s b = true → fnd N n (tW s b) = some k → ∃ m', Fr (sPr p) m m' ∧ Pa_readTold D 4 a (nI n) m = yI (nI k) m' ∧ PC s p u (tX s b) m') := by
  obtain ⟨d, rfl⟩ : ∃ d, D = d + 1 := ⟨D - 1, by omega⟩
  rw [Pa_readTold_e _ _ _ _ _ kd_4, Ta_isName_s h.1.2.1 h.2.1, bI_y]
  refine ⟨fun z => ?_, fun z y => ?_, fun k z y => ?_⟩
  · rw [z, if_neg nbf0, show (1 : Int32) = nI 1 from rfl, (h.bad 1 d).1, bI_y]
    exact ⟨_, (h.bad 1 d).2, rfl, gI_w _ _ _ _⟩
  · rw [z, if_pos bt0, Ta_word_s h.2.1 (tkN_k z).1, bL_y, hf d z, bI_y, y, if_neg (show ¬ ¬ pO none = -1 from fun q => q rfl), show (2 : Int32) = nI 2 from rfl, (h.bad 2 d).1, bI_y]
    exact ⟨_, (h.bad 2 d).2, rfl, gI_w _ _ _ _⟩
  · have hk := fnd_lt y
    obtain ⟨m1, f1, e1, c1⟩ := h.st (D := d) (by omega)
    rw [z, if_pos bt0, Ta_word_s h.2.1 (tkN_k z).1, bL_y, hf d z, bI_y, y, if_pos (pO_ne (by omega)), e1, bV_y]
    exact ⟨m1, f1, rfl, c1⟩
theorem PC.fN {s : eTp} {p b : Nat} {u : eV} {m : eM} (h : PC s p u b m) {w : Nat} (hw : w < 27 ^ 8) {D : Nat} (hD : 1 ≤ D) : Pa_factNamed D p (nm8 w) m = yI (pO (fnd (nam u) (nF u) w)) m := by
  obtain ⟨d, rfl⟩ : ∃ d, D = d + 1 := ⟨D - 1, by omega⟩
  rw [Pa_factNamed_e _ _ _ _ h.kd, h.pp.2.1.1, bR_s, h.pp.2.2.1.1, h.fF hw, bI_y]
/-- what is known: the loop -/
theorem Pa_known_l {s : eTp} {p : Nat} {u : eV} {q : Int64} {hm : Int32} (d : Nat) (hd : 3 ≤ d) : ∀ f i b k w m, i + f = 7 → k < 64 → PC s p u b m → (∀ r, knL s u f b k = .inr r → ∃ m', Fr (sPr p) m m' ∧ Pa_readPerson_75 (d + 1) p 4 q hm (nI k) (nI i) w m = (bI (Ta_takeSign d 4 (59 : Int32) m') fun v2 m1 => if ¬ v2 = 0 then (bV (Pa_addPerson d p q hm (nI r.2) m1) fun m3 => yI 1 m3) else yI 0 m1) ∧ PC s p u r.1 m') ∧ (∀ e, knL s u f b k = .inl e → ∃ m', Fr (sPr p) m m' ∧ Pa_readPerson_75 (d + 1) p 4 q hm (nI k) (nI i) w m = yI 0 m' ∧ gI m' 4 8 = nI e)
  | 0, i, b, k, w, m, e, hk, h => by
    rw [Pa_readPerson_75_e _ _ _ _ _ _ _ _ _ h.kd kd_4, if_pos (by rw [show (6 : Int32) = nI 6 from rfl, n_lt (by omega) (by omega)]; omega)]
    exact ⟨fun r q => (by cases q; exact ⟨m, Fr.rfl', rfl, h⟩), fun e q => (by cases q)⟩
  | f + 1, i, b, k, w, m, e, hk, h => by
    obtain ⟨d', rfl⟩ : ∃ d', d = d' + 1 := ⟨d - 1, by omega⟩
    have hF6 := h.2.2.2.2.1.1.1
    have hT := Pa_readTold_s h (D := d') (by omega) (a := p + 1) (N := nam u) (n := nF u) (fun d z => h.fF (tW_lt (tkN_k z).1) d) hF6
    rw [Pa_readPerson_75_e _ _ _ _ _ _ _ _ _ h.kd kd_4, if_neg (by rw [show (6 : Int32) = nI 6 from rfl, n_lt (by omega) (by omega)]; omega), c59, Ta_isSign_s h.ch h.2.1 (by decide), bI_y]
    unfold knL
    by_cases z : tkN s b = true
    · have hk2 := (tkN_k z).1
      have nS : tkS s b 59 = false := Bool.eq_false_iff.mpr fun q => by have := (tkS_k q).1; omega
      rw [nS, if_neg nbf0, if_pos z, Pa_readKnown_e _ _ _ _ _ h.kd kd_4, Ta_isName_s h.1.2.1 h.2.1, bI_y, z, if_neg bt0, Ta_word_s h.2.1 hk2, bL_y, h.fN (tW_lt hk2) (by omega), bI_y, Pa_readKnown_19_e _ _ _ _ _ _ h.kd kd_4, h.pp.2.1.1, bR_s, h.pp.2.2.1.1]
      cases y : fnd (nam u) (nF u) (tW s b) with
      | none =>
        obtain ⟨m1, f1, e1, r1⟩ := hT.2.1 z y
        dsimp only
        rw [if_pos (show pO none = -1 from rfl), e1, bI_y, bI_y, if_neg (fun q => q rfl)]
        exact ⟨fun r q => (by cases q), fun e q => (by cases q; exact ⟨m1, f1, rfl, r1⟩)⟩
      | some j =>
        have hj := fnd_lt y
        dsimp only
        rw [if_neg (pO_ne (show j < 2147483648 by omega))]
        have hbit : (nI k >>> (pO (some j) &&& 31)) &&& (1 : Int32) = bb (k.testBit j) := bitI (by omega) (by omega)
        rw [hbit]
        by_cases x : k.testBit j = true
        · rw [x, if_pos (show true = true from rfl), if_neg (show ¬ ¬ bb true = 1 from fun q => q rfl), show (3 : Int32) = nI 3 from rfl, (h.bad 3 d').1, bI_y, bI_y, if_neg (show ¬ ¬ (-1 : Int32) = -1 from fun q => q rfl)]
          exact ⟨fun r q => (by cases q), fun e q => (by cases q; exact ⟨_, (h.bad 3 d').2, rfl, gI_w _ _ _ _⟩)⟩
        · obtain ⟨m1, f1, e1, c1⟩ := hT.2.2 j z y
          have ho : nI k ||| ((1 : Int32) <<< (nI j &&& 31)) = nI (k ||| 2 ^ j) := by rw [shl1 j (by omega), orN]
          have h2 : 2 ^ j ≤ 32 := Nat.pow_le_pow_right (n := 2) (i := j) (j := 5) (by decide) (by omega)
          have hk' : k ||| 2 ^ j < 64 := Nat.or_lt_two_pow (n := 6) hk (by omega)
          obtain ⟨i1, i2⟩ := Pa_known_l (s := s) (p := p) (u := u) (q := q) (hm := hm) (d' + 1) hd f (i + 1) (tX s b) (k ||| 2 ^ j) (.int (nI j)) m1 (by omega) hk' c1
          rw [Bool.eq_false_iff.mpr x, if_neg (show ¬ false = true by decide), if_pos (show ¬ bb false = 1 by decide), e1, bI_y, bI_y, if_pos (show ¬ nI j = -1 by rw [n_ne_neg1 (by omega)]; exact fun q => q), ho, nI_1]
          refine ⟨fun r q => ?_, fun e q => ?_⟩
          · obtain ⟨m2, f2, e2, c2⟩ := i1 r q
            exact ⟨m2, f1.tr f2, e2, c2⟩
          · obtain ⟨m2, f2, e2, r2⟩ := i2 e q
            exact ⟨m2, f1.tr f2, e2, r2⟩
    · rw [if_neg z]
      refine ⟨fun r q => ?_, fun e q => (by cases q)⟩
      cases q
      refine ⟨m, Fr.rfl', ?_, h⟩
      by_cases x : tkS s b 59 = true
      · rw [x, if_pos bt0]
      · obtain ⟨m1, f1, e1, r1⟩ := hT.1 (Bool.eq_false_iff.mpr z)
        have e0 : Pa_readKnown (d' + 1) p 4 (nI k) m = yI (-1) (sI m 4 8 (nI (er s b 1))) := by
          obtain ⟨d2, rfl⟩ : ∃ d2, d' = d2 + 1 := ⟨d' - 1, by omega⟩
          rw [Pa_readKnown_e _ _ _ _ _ h.kd kd_4, Ta_isName_s h.1.2.1 h.2.1, bI_y, Bool.eq_false_iff.mpr z, if_pos bf0, Pa_readKnown_19_e _ _ _ _ _ _ h.kd kd_4, if_pos rfl, h.pp.2.1.1, bR_s, h.pp.2.2.1.1, Pa_readTold_e _ _ _ _ _ kd_4, Ta_isName_s h.1.2.1 h.2.1, bI_y, Bool.eq_false_iff.mpr z, if_neg nbf0, show (1 : Int32) = nI 1 from rfl, (h.bad 1 d2).1, bI_y, bI_y]
        have e2 : Ta_takeSign (d' + 1) 4 (nI 59) m = yI 0 (sI m 4 8 (nI (er s b 1))) := by
          rw [Ta_takeSign_e _ _ _ _ kd_4, Ta_isSign_s h.ch h.2.1 (by decide), bI_y, Bool.eq_false_iff.mpr x, if_neg nbf0, show (1 : Int32) = nI 1 from rfl, (h.bad 1 d').1, bI_y, yB0]
        rw [Bool.eq_false_iff.mpr x, if_neg nbf0, e0, e2, bI_y, bI_y, if_neg (fun q => q rfl), if_neg (fun q => q rfl)]
theorem knL_k {s : eTp} {u : eV} : ∀ f b k r, k < 2 ^ nF u → knL s u f b k = .inr r → r.2 < 2 ^ nF u
  | 0, b, k, r, hk, h => by cases h; exact hk
  | f + 1, b, k, r, hk, h => by
    unfold knL at h
    by_cases z : tkN s b = true
    · rw [if_pos z] at h
      cases y : fnd (nam u) (nF u) (tW s b) with
      | none => rw [y] at h; cases h
      | some i =>
        rw [y] at h
        dsimp only at h
        by_cases x : k.testBit i = true
        · rw [if_pos x] at h; cases h
        · rw [if_neg x] at h
          exact knL_k f _ _ r (Nat.or_lt_two_pow hk (Nat.pow_lt_pow_right (by decide) (fnd_lt y))) h
    · rw [if_neg z] at h; cases h; exact hk
theorem Pa_readPerson_s {s : eTp} {p b : Nat} {u : eV} {m : eM} (h : PC s p u b m) {D : Nat} (hD : 6 ≤ D) : liC s p m (Pa_readPerson D p 4 m) (lnPe s u b) := by
  obtain ⟨d, rfl⟩ : ∃ d, D = d + 1 := ⟨D - 1, by omega⟩
  rw [Pa_readPerson_e _ _ _ _ h.kd kd_4, h.pp.2.2.1.2.2.1]
  unfold lnPe
  refine li_re (h.sl (D := d) (by omega) h.2.2.2.2.1.1.2.2.1) (fun b1 m1 c1 z1 => ?_) (fun m' => k0a)
  obtain ⟨i1, i2, i3, i4⟩ := stL_i z1
  have hk : tK s b1 = 2 := by rw [i4]; exact (tkN_k i2).1
  have hw := tW_lt hk
  rw [k1a, Ta_word_s c1.2.1 hk, bL_y]
  refine li_st c1 (by omega) fun m2 c2 => ?_
  rw [w_at]
  refine li_re (c2.W (D := d) (by omega) (by decide)) (fun b3 m3 c3 z3 => ?_) (fun m' => k0a)
  have hPl6 := c3.2.2.2.2.1.1.2.1
  obtain ⟨t1, t2, t3⟩ := Pa_readTold_s c3 (D := d) (by omega) (a := p + 3) (N := plc u) (n := nPl u) (fun d z => c3.fP (tW_lt (tkN_k z).1) d) hPl6
  rw [k1a, c3.pp.2.1.2.2.1, bR_s, c3.pp.2.2.1.2.1]
  by_cases z : tkN s b3 = true
  · rw [if_pos z]
    cases y : fnd (plc u) (nPl u) (tW s b3) with
    | none =>
      obtain ⟨m4, f4, e4, r4⟩ := t2 z y
      dsimp only
      rw [e4, bI_y, if_pos rfl]
      exact li_e f4 rfl r4
    | some g =>
      obtain ⟨m4, f4, e4, c4⟩ := t3 g z y
      have hg := fnd_lt y
      dsimp only
      rw [e4, bI_y, if_neg (by rw [n_ne_neg1 (by omega)]; exact fun q => q), w_kn]
      refine liC.up f4 (li_re (c4.W (D := d) (by omega) (by decide)) (fun b5 m5 c5 z5 => ?_) (fun m' => k0a))
      rw [k1a]
      obtain ⟨j1, j2⟩ := Pa_known_l (s := s) (p := p) (u := u) (q := nm8 (tW s b1)) (hm := nI g) d (by omega) 7 0 b5 0 eU m5 rfl (by decide) c5
      cases x : knL s u 7 b5 0 with
      | inl e =>
        obtain ⟨m6, f6, e6, r6⟩ := j2 e x
        have e6 : Pa_readPerson_75 (d + 1) p 4 (nm8 (tW s b1)) (nI g) (0 : Int32) (0 : Int32) eU m5 = yI 0 m6 := e6
        rw [e6]
        exact li_e f6 rfl r6
      | inr r =>
        obtain ⟨m6, f6, e6, c6⟩ := j1 r x
        have e6 : Pa_readPerson_75 (d + 1) p 4 (nm8 (tW s b1)) (nI g) (0 : Int32) (0 : Int32) eU m5 = _ := e6
        rw [e6, c59]
        have hr := knL_k 7 b5 0 r (Nat.two_pow_pos _) x
        refine liC.up f6 (li_re (c6.S (D := d) (by omega) (by decide)) (fun b7 m7 c7 z7 => ?_) (fun m' => k0a))
        rw [k1a]
        exact li_ad (c7.aQ i1 hg hr hw d)
  · obtain ⟨m4, f4, e4, r4⟩ := t1 (Bool.eq_false_iff.mpr z)
    rw [if_neg z, e4, bI_y, if_pos rfl]
    exact li_e f4 rfl r4
theorem Pa_readCock_s {s : eTp} {p b : Nat} {u : eV} {m : eM} (h : PC s p u b m) {D : Nat} (hD : 5 ≤ D) (hk : tkW s b 70076 = true) : liC s p m (bI (Ta_takeWord D 4 (nm8 70076) m) fun v12 m11 => if v12 = 0 then (yI 0 m11) else (Pa_readCock D p 4 m11)) (lnCk s u b) := by
  obtain ⟨d, rfl⟩ : ∃ d, D = d + 1 := ⟨D - 1, by omega⟩
  have hb := h.2.2.2.2.2
  obtain ⟨m0, f0, e0, c0⟩ := (h.W (D := d + 1) (by omega) (n := 70076) (by decide)).1 (tX s b) (by unfold rqW; rw [if_pos hk])
  rw [e0, bI_y, k1b]
  refine liC.up f0 ?_
  unfold lnCk
  rw [Pa_readCock_e _ _ _ _ c0.kd kd_4, show (1 : Int32) = nI 1 from rfl]
  refine li_nu c0 (by omega) (by decide) (fun b2 z2 n3 n4 n5 => ?_) (fun m' => k0a)
  have htl := (c0.2.2.2.2.1.2.2.1 (tN s (tX s b)) (by omega)).2.2.2
  rw [k1a, Ta_number_s c0.2.1 n3, bI_y, Pa_isCock_r c0.pp.1 c0.pp.2.1, bI_y, inN_n (by omega) (by decide), decide_eq_true (by omega), if_neg bt0]
  obtain ⟨⟨h0, k0, k1, k2, k3, k4, k5, k6, k7, k8, k9, k10, k11⟩, ⟨r4, r5, r6, r7, r8, r9, r10, r11, r12, r13, r14⟩, -⟩ := c0.pp
  rw [r12, bR_s, pk_ga k9 (by omega) (show tN s (tX s b) < 2 by omega) (by decide), n_cl (by omega), c0.2.2.2.1.2.2 _ (by omega)]
  by_cases z : tol u (tN s (tX s b)) = 1
  · rw [if_neg (by rw [z]; decide), if_pos z, show (3 : Int32) = nI 3 from rfl, (c0.bad 3 d).1, bI_y, yB0]
    exact li_e (c0.bad 3 d).2 rfl (gI_w _ _ _ _)
  · rw [if_pos (by rw [show tol u (tN s (tX s b)) = 0 by omega]; rfl), if_neg z, Pa_readCock_38_e _ _ _ _ _ c0.kd kd_4]
    refine li_st c0 (by omega) fun m1 c1 => ?_
    rw [← n5] at c1
    rw [w_la]
    refine li_re (c1.W (D := d) (by omega) (by decide)) (fun b3 m3 c3 z3 => ?_) (fun m' => k0b)
    rw [k1b, show (1 : Int32) = nI 1 from rfl]
    refine li_nu c3 (by omega) (by decide) (fun b4 z4 q3 q4 q5 => ?_) (fun m' => k0a)
    rw [k1a, Ta_number_s c3.2.1 q3, bI_y]
    refine li_st c3 (by omega) fun m4 c4 => ?_
    rw [← q5] at c4
    rw [w_lt]
    refine li_re (c4.W (D := d) (by omega) (by decide)) (fun b5 m5 c5 z5 => ?_) (fun m' => k0b)
    rw [k1b, show (60 : Int32) = nI 60 from rfl]
    refine li_nu c5 (by omega) (by decide) (fun b6 z6 p3 p4 p5 => ?_) (fun m' => k0a)
    rw [k1a, Ta_number_s c5.2.1 p3, bI_y]
    refine li_st c5 (by omega) fun m6 c6 => ?_
    rw [← p5] at c6
    rw [c59]
    refine li_re (c6.S (D := d) (by omega) (by decide)) (fun b7 m7 c7 z7 => ?_) (fun m' => k0a)
    rw [k1a]
    exact li_ad (c7.aC (by omega) (by omega) (by omega) (D := d) (by omega))
theorem Pa_readCommon_s {s : eTp} {p b : Nat} {u : eV} {m : eM} (h : PC s p u b m) {D : Nat} (hD : 62 ≤ D) : liC s p m (Pa_readCommon D p 4 6 m) (lnCm s u b) := by
  obtain ⟨d, rfl⟩ : ∃ d, D = d + 1 := ⟨D - 1, by omega⟩
  have hC4 := h.2.2.2.2.1.1.2.2.2
  have hF6 := h.2.2.2.2.1.1.1
  rw [Pa_readCommon_e _ _ _ _ _ h.kd kd_4 kd_6, h.pp.2.2.1.2.2.2]
  unfold lnCm
  by_cases z : 4 ≤ nCm u
  · rw [if_neg (by rw [show (4 : Int32) = nI 4 from rfl, n_lt (by omega) (by omega)]; omega), if_pos z, show (5 : Int32) = nI 5 from rfl, (h.bad 5 d).1, bI_y, yB0]
    exact li_e (h.bad 5 d).2 rfl (gI_w _ _ _ _)
  · rw [if_pos (by rw [show (4 : Int32) = nI 4 from rfl, n_lt (by omega) (by omega)]; omega), if_neg z]
    refine li_st h (by omega) fun m1 c1 => ?_
    have hR := Fo_read_s (s := s) (p := p) (N := nam u) (n := nF u) (D := d) (by omega) (b := tX s b) c1.2.2.2.2.2 ⟨c1.1, c1.2.1, c1.2.2.1, ⟨⟨c1.pp.1, c1.pp.2.1.1, c1.2.2.2.1.2.1⟩, c1.pp.2.2.1.1, hF6, fun j hj => ⟨(c1.pp.2.2.2.1 j hj).1, (c1.2.2.2.2.1.2.1.1 j hj).2⟩⟩⟩
    cases y : pE s (nam u) (nF u) (tX s b) with
    | inl e =>
      obtain ⟨m2, f2, e2, r2⟩ := hR.1 e y
      rw [e2, bI_y, k0b]
      exact li_e f2.foH.hrP rfl r2
    | inr g =>
      obtain ⟨m2, f2, e2, q2⟩ := hR.2 g y
      obtain ⟨p1, p2, p3, -⟩ := pE_G s (nam u) (nF u) _ g c1.2.2.2.2.2 y
      have c2 := c1.mv f2.foH q2.2.1 q2.2.2.1 p1
      rw [e2, bI_y, k1b, c59]
      refine liC.up f2.foH.hrP ?_
      show liC s p m2 _ (sb (rqS s 59 g.1) fun b5 => .inr (b5, uComm u g.2.2.2))
      -- the sign is taken: the steps stay
      have hS := c2.S (D := d) (by omega) (n := 59) (by decide)
      cases x : rqS s 59 g.1 with
      | inl e =>
        obtain ⟨m3, f3, e3, r3⟩ := hS.2 e x
        rw [e3, bI_y, k0a]
        exact li_e f3 rfl r3
      | inr b5 =>
        obtain ⟨x1, x2⟩ := rqS_i x
        obtain ⟨d', hd'⟩ : ∃ d', d = d' + 1 := ⟨d - 1, by omega⟩
        obtain ⟨m3, f3, e3, q3⟩ := q2.st p1 (D := d') (by omega)
        have e3' : Ta_takeSign d 4 (nI 59) m2 = yI 1 m3 := by
          rw [hd', Ta_takeSign_e _ _ _ _ kd_4, Ta_isSign_s c2.ch c2.2.1 (by decide), bI_y, x1, if_pos bt0, e3, bV_y]
        have c3 := c2.mv f3.foH q3.2.1 q3.2.2.1 (tX_le p1).2
        have h1000 : s.1 ≤ 1000 := c2.1.2.2.2.1
        have hB := (tB_le p1).2
        have hA : StA g.2.1 0 g.2.1.length m3 := by
          obtain ⟨-, -, -, ⟨l1, l2⟩, -⟩ := q3
          exact ⟨⟨c3.sk, l1, by omega, by omega⟩, fun k hk => by rw [Nat.zero_add]; exact l2 k hk⟩
        obtain ⟨m4, f4, e4⟩ := Fo_worldsSo_s (pE_C c2.ch hF6 y) (by decide) (D := d) (by omega) hF6 hA
        have hpO := c3.2.2.2.1.2.1
        have f4' : Fr (sPr p) m3 m4 := f4.fwH.hrP
        have c4 := c3.mv f4.fwH (c3.2.1.fr f4 (fun j _ _ => rfl)) ((f4.1 _ _ rfl).trans c3.2.2.1) (tX_le p1).2
        have hco3 : gL m3 p 15 = com u := c3.pp.2.2.2.2.2.2.2.2
        rw [e3', bI_y, k1a, c3.pp.2.2.1.1, e4, bL_y, hco3, mJ_u]
        have hV := Vu_comm c4.2.2.2.2.1 (by omega) (pE_D y)
        have hcm : gI (sL m4 p 15 (com u &&& woN (nF u) g.2.2.2)) p 3 = nI (nCm u) := c4.pp.2.2.1.2.2.2
        rw [hcm, mI_u, nI_1]
        obtain ⟨m5, hm5⟩ : ∃ m5, m5 = sI (sL m4 p 15 (com u &&& woN (nF u) g.2.2.2)) p 3 (nI (nCm u + 1)) := ⟨_, rfl⟩
        rw [← hm5]
        have f5 : Fr (sPp p) m4 m5 := by
          rw [hm5]
          exact (Fr.rfl'.l (decide_eq_true (by omega))).i (decide_eq_true (by omega))
        have hP4 := c4.pp
        have htol := c4.2.2.2.1.2.2
        have f5' : Fr (fun a j => a == p && (j == 15 || j == 3)) m4 m5 := by
          rw [hm5]
          exact (Fr.rfl'.l (by simp)).i (by simp)
        have nn : ∀ a j, a ≠ p → (a == p && (j == 15 || j == 3)) = false := fun a j q => by simp [q]
        have n0 : ∀ j, j ≠ 15 → j ≠ 3 → (p == p && (j == 15 || j == 3)) = false := fun j q q2 => by simp [q, q2]
        obtain ⟨w1, w2⟩ := c4.ad (m' := m5) f5 (u' := uComm u g.2.2.2) (by
          obtain ⟨b1, ⟨r4, r5, r6, r7, r8, r9, r10, r11, r12, r13, r14⟩, ⟨g0, g1, g2, g3⟩, hf, hpl, hp, hl, hi, hco⟩ := hP4
          exact ⟨b1, ⟨(f5.r _ _).trans r4, (f5.r _ _).trans r5, (f5.r _ _).trans r6, (f5.r _ _).trans r7, (f5.r _ _).trans r8, (f5.r _ _).trans r9, (f5.r _ _).trans r10, (f5.r _ _).trans r11, (f5.r _ _).trans r12, (f5.r _ _).trans r13, (f5.r _ _).trans r14⟩, ⟨(f5'.1 _ _ (n0 _ (by decide) (by decide))).trans g0, (f5'.1 _ _ (n0 _ (by decide) (by decide))).trans g1, (f5'.1 _ _ (n0 _ (by decide) (by decide))).trans g2, by rw [hm5, gI_w]; rfl⟩, fun j hj => by
            have := hf j hj
            rw [f5'.2.1 _ _ (nn _ _ (by omega)), f5'.1 _ _ (nn _ _ (by omega))]; exact this, fun j hj => by
            have := hpl j hj
            rw [f5'.2.1 _ _ (nn _ _ (by omega)), f5'.1 _ _ (nn _ _ (by omega))]; exact this, fun j hj => by
            have := hp j hj
            rw [f5'.2.1 _ _ (nn _ _ (by omega)), f5'.1 _ _ (nn _ _ (by omega)), f5'.1 _ _ (nn _ _ (by omega)), f5'.1 _ _ (nn _ _ (by omega))]; exact this, fun x hx => by
            have := hl x hx
            rw [f5'.1 _ _ (nn _ _ (by omega)), f5'.1 _ _ (nn _ _ (by omega))]; exact this, by
            rw [f5'.1 _ _ (nn _ _ (by omega))]; exact hi, by
            rw [hm5, gL_sI, gL_w]; rfl⟩) (fun x hx => by
            rw [f5'.1 _ _ (nn _ _ (by omega))]; exact htol x hx) hV
        refine ⟨fun r q => ?_, fun e q => (by cases q)⟩
        cases q
        have x2 : b5 = tX s g.1 := x2
        rw [x2]
        exact ⟨m5, (f3.foH.hrP.tr f4').tr w2, rfl, w1⟩
/-! the whole parish -/
theorem lnF_v {s : eTp} {u : eV} {b : Nat} : True := trivial
theorem Pa_read_5_s {s : eTp} {p : Nat} (d : Nat) (hd : 62 ≤ d) : ∀ k i u b m, i + k = 1000 → PC s p u b m → liC s p m (Pa_read_5 (d + 1) p 4 6 (1 : Int32) (nI i) m) (lns s k b u)
  | 0, i, u, b, m, e, h => by
    rw [Pa_read_5_e _ _ _ _ _ _ _ h.kd kd_4 kd_6, if_pos (by rw [show (1000 : Int32) = nI 1000 from rfl, n_le (by omega) (by omega)]; omega), yB1]
    exact ⟨fun r q => (by cases q; exact ⟨m, Fr.rfl', rfl, h⟩), fun e q => (by cases q)⟩
  | k + 1, i, u, b, m, e, h => by
    have hk := tK_le s b
    rw [Pa_read_5_e _ _ _ _ _ _ _ h.kd kd_4 kd_6, if_neg (i1000 (by omega)), k1b, Ta_kind_s h.2.1, bI_y, nI_1]
    by_cases z : tK s b = 0
    · rw [if_pos (by rw [z]; rfl), yB1, lns_0 z]
      exact ⟨fun r q => (by cases q; exact ⟨m, Fr.rfl', rfl, h⟩), fun e q => (by cases q)⟩
    · rw [if_neg (by rw [show (0 : Int32) = nI 0 from rfl, n_eq (by omega) (by omega)]; exact z)]
      -- a line that went well, a line that didn't
      have nx : ∀ (F : oX), liC s p m F (lnA s u b) → liC s p m (bI F fun v m' => Pa_read_5 (d + 1) p 4 6 v (nI (i + 1)) m') (lns s (k + 1) b u) := fun F hF => by
        cases y : lnA s u b with
        | inl e1 =>
          obtain ⟨m1, f1, a1, r1⟩ := hF.2 e1 y
          rw [a1, bI_y, lns_e z y]
          refine li_e f1 ?_ r1
          rw [Pa_read_5_e _ _ _ _ _ _ _ h.kd kd_4 kd_6, yB0]
          by_cases w : (1000 : Int32) ≤ nI (i + 1)
          · rw [if_pos w]
          · rw [if_neg w, if_pos rfl]
        | inr r =>
          obtain ⟨m1, f1, a1, c1⟩ := hF.1 r y
          rw [a1, bI_y, lns_s z y]
          exact liC.up f1 (Pa_read_5_s d hd k (i + 1) r.2 r.1 m1 (by omega) c1)
      rw [w_fa, w_pl, w_pe, w_co, w_ck, Ta_isWord_s h.2.1 (by decide), bI_y]
      by_cases z1 : tkW s b 118928 = true
      · rw [z1, if_neg bt0]
        refine nx _ ?_
        have : lnA s u b = lnF s u b := by unfold lnA; rw [if_pos z1]
        rw [this]
        exact Pa_readFact_s h (by omega)
      · rw [Bool.eq_false_iff.mpr z1, if_pos bf0, Ta_isWord_s h.2.1 (by decide), bI_y]
        by_cases z2 : tkW s b 8740067 = true
        · rw [z2, if_neg bt0]
          refine nx _ ?_
          have : lnA s u b = lnPl s u b := by unfold lnA; rw [if_neg z1, if_pos z2]
          rw [this]
          exact Pa_readPlace_s h (by omega)
        · rw [Bool.eq_false_iff.mpr z2, if_pos bf0, Ta_isWord_s h.2.1 (by decide), bI_y]
          by_cases z3 : tkW s b 232608281 = true
          · rw [z3, if_neg bt0]
            refine nx _ ?_
            have : lnA s u b = lnPe s u b := by unfold lnA; rw [if_neg z1, if_neg z2, if_pos z3]
            rw [this]
            exact Pa_readPerson_s h (by omega)
          · rw [Bool.eq_false_iff.mpr z3, if_pos bf0, Ta_isWord_s h.2.1 (by decide), bI_y]
            by_cases z4 : tkW s b 51284111 = true
            · rw [z4, if_neg bt0]
              refine nx _ ?_
              have : lnA s u b = lnCm s u b := by unfold lnA; rw [if_neg z1, if_neg z2, if_neg z3, if_pos z4]
              rw [this]
              exact Pa_readCommon_s h (by omega)
            · rw [Bool.eq_false_iff.mpr z4, if_pos bf0]
              have hl : lnA s u b = if tkW s b 70076 = true then lnCk s u b else .inl (er s b 1) := by unfold lnA; rw [if_neg z1, if_neg z2, if_neg z3, if_neg z4]
              have step : liC s p m (bI (Ta_takeWord d 4 (nm8 70076) m) fun v12 m11 => if v12 = 0 then (yI 0 m11) else (Pa_readCock d p 4 m11)) (lnA s u b) := by
                rw [hl]
                by_cases z5 : tkW s b 70076 = true
                · rw [if_pos z5]
                  exact Pa_readCock_s h (by omega) z5
                · obtain ⟨m1, f1, a1, r1⟩ := (h.W (D := d) (by omega) (n := 70076) (by decide)).2 (er s b 1) (by unfold rqW; rw [if_neg z5])
                  rw [if_neg z5, a1, bI_y, k0b]
                  exact li_e f1 rfl r1
              have fin := nx _ step
              -- the class goes on from each end by itself
              by_cases z5 : tkW s b 70076 = true
              · obtain ⟨m1, f1, a1, c1⟩ := (h.W (D := d) (by omega) (n := 70076) (by decide)).1 (tX s b) (by unfold rqW; rw [if_pos z5])
                rw [a1, bI_y, k1b] at fin
                rw [a1, bI_y, k1b]
                have hF : liC s p m (Pa_readCock d p 4 m1) (lnA s u b) := by
                  rw [a1, bI_y, k1b] at step
                  exact step
                cases y : lnA s u b with
                | inl e1 =>
                  obtain ⟨m2, f2, a2, r2⟩ := hF.2 e1 y
                  rw [a2, bI_y] at fin
                  rw [a2, bI_y, k0b]
                  exact fin
                | inr r =>
                  obtain ⟨m2, f2, a2, c2⟩ := hF.1 r y
                  rw [a2, bI_y] at fin
                  rw [a2, bI_y, k1b]
                  exact fin
              · obtain ⟨m1, f1, a1, r1⟩ := (h.W (D := d) (by omega) (n := 70076) (by decide)).2 (er s b 1) (by unfold rqW; rw [if_neg z5])
                rw [a1, bI_y, k0b, bI_y] at fin
                rw [a1, bI_y, k0b]
                exact fin
