theorem Ai_gather_s {v : eV} (hv : Va v) {p : Nat} {D : Nat} (hD : 1 ≤ D) {m : eM} (h : Pp v p m) (hs : Sk m) (hp : p + 11 < 48 ∨ 48 < p) : ∃ m', Fr sG m m' ∧ Ai_gather D 46 p m = yV m' ∧ ∀ q, q < 7 → ∀ w, w < 64 → (tb (gL m' 48 q) w = true ↔ ∃ i, i < 7 ∧ fir v i = q ∧ tb (gL m 47 i) w = true) := by
  obtain ⟨d, rfl⟩ : ∃ d, D = d + 1 := ⟨D - 1, by omega⟩
  obtain ⟨m1, f1, e1, h1⟩ := Ai_gather_2_s h.kd d 7 0 m hs (by omega) (fun q hq => by omega)
  obtain ⟨m2, f2, e2, h2⟩ := Ai_gather_26_s hv d 7 0 eU m1 (h.fr f1 fun a _ h1 h2 => sG_n (by omega)) (f1.sk hs) hp (by omega) (fun q hq w hw => by
    rw [h1 q hq, t_0]
    exact ⟨fun z => by (cases z), fun ⟨i, a, _⟩ => absurd a (Nat.not_lt_zero i)⟩)
  refine ⟨m2, f1.tr f2, ?_, fun q hq w hw => ?_⟩
  · rw [Ai_gather_e _ _ _ _ kd_46 h.kd, show (0 : Int32) = nI 0 from rfl]
    exact e1.trans e2
  · rw [h2 q hq w hw]
    have : ∀ i, gL m1 47 i = gL m 47 i := fun i => f1.2.1 47 i (sG_n (by decide))
    simp only [this]
theorem Ai_take_3_s {t p : Nat} (ht : kd t = 7) (hp : kd p = 4) (d : Nat) (c mn : Int32) (x : Int64) : ∀ j k m, Sk m → k + j = 7 → (∀ q, q < k → gL m 47 q = 0) → ∃ m', Fr sA m m' ∧ Ai_take_3 (d + 1) 46 t p c mn x (nI k) m = (bI (Tk_size d t m') fun v3 m2 => Ai_take_39 (d + 1) 46 t p c mn x x (v3 - (1 : Int32)) eU eU m2) ∧ ∀ q, q < 7 → gL m' 47 q = 0
  | 0, k, m, hs, e, hG => by
    refine ⟨m, Fr.rfl', ?_, fun q hq => hG q (by omega)⟩
    rw [Ai_take_3_e _ _ _ _ _ _ _ _ _ kd_46 ht hp, rf_46_0 hs, bR_s, gl_47, al_47, toI, if_pos (by rw [n_le (by omega) (by omega)]; omega)]
  | j + 1, k, m, hs, e, hG => by
    have f : Fr sA m (sL m 47 k 0) := Fr.rfl'.l rfl
    obtain ⟨m', f2, e2, h2⟩ := Ai_take_3_s ht hp d c mn x j (k + 1) (sL m 47 k 0) hs (by omega) (fun q hq => by
      rw [gL_sL]
      by_cases z : q = k
      · rw [if_pos ⟨rfl, z⟩]
      · rw [if_neg (fun y => z y.2)]; exact hG q (by omega))
    refine ⟨m', f.tr f2, ?_, h2⟩
    rw [Ai_take_3_e _ _ _ _ _ _ _ _ _ kd_46 ht hp, rf_46_0 hs, bR_s, gl_47, al_47, toI, if_neg (by rw [n_le (by omega) (by omega)]; omega), bR_s, gw_47 (by omega), n_cl (by omega), mJ_u, nI_1]
    exact e2
theorem sG_A {m m' : eM} (f : Fr sG m m') : Fr sA m m' := f.up fun a j h => by
  by_cases z : a = 48
  · subst z; cases h
  · exact sG_n z
/-- where what a talk at t and a parish at p lie: not in the aim's rows -/
def ofA (t p : Nat) : Prop := (t + 5 < 47 ∨ 48 < t) ∧ (p + 11 < 47 ∨ 48 < p)
/-- whom it points at in each world of x -/
def pB (v : eV) (g : Nat → Nat) (c mn n : Nat) (x : Int64) (i w : Nat) : Prop := tb x w = true ∧ ptN v g c mn w n = i
theorem Ai_take_39_s {v : eV} (hv : Va v) {t n p : Nat} {g : Nat → Nat} (d : Nat) {c mn : Nat} (hc : c < 2) (hm : mn < 2000) (x : Int64) (ho : ofA t p) : ∀ k y w10 w11 m, k ≤ n → TkP v t n g m → Pp v p m → Sk m → (∀ w, w < 64 → tb y w = true → tb x w = true ∧ ptN v g c mn w n = ptN v g c mn w k) → (∀ i, i < 7 → ∀ w, w < 64 → (tb (gL m 47 i) w = true ↔ pB v g c mn n x i w ∧ tb y w = false)) → ∃ m', Fr sA m m' ∧ Ai_take_39 (d + 2) 46 t p (nI c) (nI mn) x y (nI k - 1) w10 w11 m = yV m' ∧ (∀ i, i < 7 → ∀ w, w < 64 → (tb (gL m' 47 i) w = true ↔ pB v g c mn n x i w)) ∧ ∀ q, q < 7 → ∀ w, w < 64 → (tb (gL m' 48 q) w = true ↔ ∃ i, i < 7 ∧ fir v i = q ∧ pB v g c mn n x i w) := by
  -- what stands at the end: the rest points at nobody
  have fin : ∀ y m, Pp v p m → Sk m → (∀ w, w < 64 → tb y w = true → tb x w = true ∧ ptN v g c mn w n = 6) → (∀ i, i < 7 → ∀ w, w < 64 → (tb (gL m 47 i) w = true ↔ pB v g c mn n x i w ∧ tb y w = false)) → ∃ m', Fr sA m m' ∧ (bR (gR m 46 0) fun r1 => bV (Ai_add (d + 1) r1 (6 : Int32) y m) fun m2 => bV (Ai_gather (d + 1) 46 p m2) fun m3 => yV m3) = yV m' ∧ (∀ i, i < 7 → ∀ w, w < 64 → (tb (gL m' 47 i) w = true ↔ pB v g c mn n x i w)) ∧ ∀ q, q < 7 → ∀ w, w < 64 → (tb (gL m' 48 q) w = true ↔ ∃ i, i < 7 ∧ fir v i = q ∧ pB v g c mn n x i w) := by
    intro y m hP hs hy hB
    have f1 : Fr sA m (sL m 47 6 (gL m 47 6 ||| y)) := Fr.rfl'.l rfl
    obtain ⟨m2, f2, e2, h2⟩ := Ai_gather_s hv (show 1 ≤ d + 1 by omega) (hP.fr f1 fun a _ q1 q2 => sA_n (by have := ho.2; omega) (by have := ho.2; omega)) hs (by have := ho.2; omega)
    have hB2 : ∀ i, i < 7 → ∀ w, w < 64 → (tb (gL (sL m 47 6 (gL m 47 6 ||| y)) 47 i) w = true ↔ pB v g c mn n x i w) := by
      intro i hi w hw
      rw [gL_sL]
      by_cases z : i = 6
      · subst z
        rw [if_pos ⟨rfl, rfl⟩, t_or, Bool.or_eq_true, hB 6 (by decide) w hw]
        constructor
        · rintro (q | q)
          · exact q.1
          · exact hy w hw q
        · intro q
          by_cases z2 : tb y w = true
          · exact Or.inr z2
          · exact Or.inl ⟨q, by rwa [Bool.not_eq_true] at z2⟩
      · rw [if_neg (fun q => z q.2), hB i hi w hw]
        constructor
        · exact fun q => q.1
        · intro q
          refine ⟨q, ?_⟩
          by_cases z2 : tb y w = true
          · exact absurd (q.2.symm.trans (hy w hw z2).2) z
          · rwa [Bool.not_eq_true] at z2
    refine ⟨m2, f1.tr (sG_A f2), ?_, fun i hi w hw => ?_, fun q hq w hw => ?_⟩
    · rw [rf_46_0 hs, bR_s, l_6, Ai_add_47 _ (by decide), bV_y, e2, bV_y]
    · rw [f2.2.1 47 i (sG_n (by decide))]
      exact hB2 i hi w hw
    · rw [h2 q hq w hw]
      constructor
      · rintro ⟨i, a, b, e⟩
        exact ⟨i, a, b, (hB2 i a w hw).mp e⟩
      · rintro ⟨i, a, b, e⟩
        exact ⟨i, a, b, (hB2 i a w hw).mpr e⟩
  intro k
  induction k with
  | zero =>
    intro y w10 w11 m hk hT hP hs hy hB
    obtain ⟨m', f, e, h1, h2⟩ := fin y m hP hs (fun w hw q => ⟨(hy w hw q).1, (hy w hw q).2⟩) hB
    refine ⟨m', f, ?_, h1, h2⟩
    rw [Ai_take_39_e _ _ _ _ _ _ _ _ _ _ _ _ kd_46 hT.kd hP.kd, n_neg1, if_pos (by decide)]
    exact e
  | succ k ih =>
    intro y w10 w11 m hk hT hP hs hy hB
    have hn := hT.2.2.2.1
    have hlat := hv.lt hc
    have hlaw := hv.la hc
    have hp := hv.p
    obtain ⟨-, -, -, -, -, hwho, hwhn⟩ := hT.2.2.2.2 k (by omega)
    rw [Ai_take_39_e _ _ _ _ _ _ _ _ _ _ _ _ kd_46 hT.kd hP.kd, nI_pred, if_neg (nI_pos (by omega))]
    by_cases y0 : y = 0
    · obtain ⟨m', f, e, h1, h2⟩ := fin y m hP hs (fun w hw q => by rw [y0, t_0] at q; cases q) hB
      refine ⟨m', f, ?_, h1, h2⟩
      rw [if_pos ((cmp0 _ _).mpr y0)]
      exact e
    · rw [if_neg (fun q => y0 ((cmp0 _ _).mp q)), Tk_minute_s hT (by omega) (by omega), bI_y, Pa_late_s hP (by omega) hc, bI_y, nI_add, Pa_law_s hP (by omega) hc, bI_y, Tk_lies_s hT (by omega) (by omega) (by omega), bL_y]
      -- both ways end in one: the lied of this saying
      have go : ∀ (q0 : Int64) (x10 : Int32), (∀ w, w < 64 → (tb q0 w = true ↔ tb y w = true ∧ whn v (g k) + lat v c ≤ mn ∧ tb (lieM v (g k) (lawV v c)) w = true)) → ∃ m', Fr sA m m' ∧ Ai_take_98 (d + 2) 46 t p (nI c) (nI mn) x y (nI k) x10 w11 q0 m = yV m' ∧ (∀ i, i < 7 → ∀ w, w < 64 → (tb (gL m' 47 i) w = true ↔ pB v g c mn n x i w)) ∧ ∀ q, q < 7 → ∀ w, w < 64 → (tb (gL m' 48 q) w = true ↔ ∃ i, i < 7 ∧ fir v i = q ∧ pB v g c mn n x i w) := by
        intro q0 x10 hq
        have f1 : Fr sA m (sL m 47 (who v (g k)) (gL m 47 (who v (g k)) ||| q0)) := Fr.rfl'.l rfl
        have hpt : ∀ w, w < 64 → tb y w = true → ptN v g c mn w n = if tb q0 w = true then who v (g k) else ptN v g c mn w k := by
          intro w hw z
          rw [(hy w hw z).2, ptN_s]
          by_cases z2 : tb q0 w = true
          · rw [if_pos ((hq w hw).mp z2).2, if_pos z2]
          · rw [if_neg (fun q => z2 ((hq w hw).mpr ⟨z, q⟩)), if_neg z2]
        obtain ⟨m', f2, e2, h1, h2⟩ := ih (y &&& (q0 ^^^ (-1))) (.int x10) (.long q0) _ (by omega) (hT.fr f1 fun a _ q1 q2 => sA_n (by have := ho.1; omega) (by have := ho.1; omega)) (hP.fr f1 fun a _ q1 q2 => sA_n (by have := ho.2; omega) (by have := ho.2; omega)) hs (fun w hw z => by
          rw [t_and, t_not hw, Bool.and_eq_true, Bool.not_eq_true'] at z
          refine ⟨(hy w hw z.1).1, ?_⟩
          rw [hpt w hw z.1, if_neg (by rw [z.2]; decide)]) (fun i hi w hw => by
          rw [gL_sL, t_and, t_not hw]
          by_cases z : tb y w = true
          · have hpw := hpt w hw z
            by_cases z2 : tb q0 w = true
            · rw [if_pos z2] at hpw
              by_cases z3 : i = who v (g k)
              · rw [if_pos ⟨rfl, z3⟩, t_or, z2, Bool.or_true, z]
                simp only [true_iff]
                exact ⟨⟨(hy w hw z).1, hpw.trans z3.symm⟩, rfl⟩
              · rw [if_neg (fun q => z3 q.2), hB i hi w hw, z]
                constructor
                · intro q; cases q.2
                · intro q; exact absurd (q.1.2.symm.trans hpw) z3
            · rw [Bool.not_eq_true] at z2
              rw [z, z2]
              have hb : tb (gL m 47 i) w = false := by
                cases q : tb (gL m 47 i) w
                · rfl
                · have := (hB i hi w hw).mp q
                  rw [z] at this; cases this.2
              by_cases z3 : i = who v (g k)
              · rw [if_pos ⟨rfl, z3⟩, t_or, z2, ← z3, hb]
                constructor
                · intro q; cases q
                · intro q; cases q.2
              · rw [if_neg (fun q => z3 q.2), hb]
                constructor
                · intro q; cases q
                · intro q; cases q.2
          · have z2 : tb q0 w = false := by
              cases q : tb q0 w
              · rfl
              · exact absurd ((hq w hw).mp q).1 z
            rw [Bool.not_eq_true] at z
            have hb := hB i hi w hw
            rw [z] at hb
            rw [z, Bool.false_and]
            by_cases z3 : i = who v (g k)
            · rw [if_pos ⟨rfl, z3⟩, t_or, z2, Bool.or_false, ← z3, hb]
            · rw [if_neg (fun q => z3 q.2), hb])
        refine ⟨m', f1.tr f2, ?_, h1, h2⟩
        rw [Ai_take_98_e _ _ _ _ _ _ _ _ _ _ _ _ _ kd_46 hT.kd hP.kd, rf_46_0 hs, bR_s, Tk_speaker_s hT (by omega) (by omega), bI_y, Ai_add_47 _ (by omega), bV_y, addm1]
        exact e2
      by_cases z : whn v (g k) + lat v c ≤ mn
      · rw [if_neg (by rw [n_lt (by omega) (by omega)]; omega)]
        refine go _ _ fun w hw => ?_
        rw [t_and, Bool.and_eq_true]
        exact ⟨fun q => ⟨q.1, z, q.2⟩, fun q => ⟨q.1, q.2.2⟩⟩
      · rw [if_pos (by rw [n_lt (by omega) (by omega)]; omega)]
        refine go _ _ fun w hw => ?_
        rw [t_0]
        exact ⟨fun q => (by cases q), fun q => absurd q.2.1 z⟩
theorem Ai_take_s {v : eV} (hv : Va v) {t n p : Nat} {g : Nat → Nat} {D : Nat} (hD : 2 ≤ D) {c mn : Nat} (hc : c < 2) (hm : mn < 2000) (x : Int64) (ho : ofA t p) {m : eM} (hT : TkP v t n g m) (hP : Pp v p m) (hs : Sk m) : ∃ m', Fr sA m m' ∧ Ai_take D 46 t p (nI c) (nI mn) x m = yV m' ∧ (∀ i, i < 7 → ∀ w, w < 64 → (tb (gL m' 47 i) w = true ↔ pB v g c mn n x i w)) ∧ ∀ q, q < 7 → ∀ w, w < 64 → (tb (gL m' 48 q) w = true ↔ ∃ i, i < 7 ∧ fir v i = q ∧ pB v g c mn n x i w) := by
  obtain ⟨d, rfl⟩ : ∃ d, D = d + 2 := ⟨D - 2, by omega⟩
  obtain ⟨m1, f1, e1, h1⟩ := Ai_take_3_s hT.kd hP.kd (d + 1) (nI c) (nI mn) x 7 0 m hs (by omega) (fun q hq => by omega)
  have hT1 : TkP v t n g m1 := hT.fr f1 fun a _ q1 q2 => sA_n (by have := ho.1; omega) (by have := ho.1; omega)
  have hP1 : Pp v p m1 := hP.fr f1 fun a _ q1 q2 => sA_n (by have := ho.2; omega) (by have := ho.2; omega)
  obtain ⟨m2, f2, e2, h2, h3⟩ := Ai_take_39_s hv d hc hm x ho n x eU eU m1 (Nat.le_refl _) hT1 hP1 (f1.sk hs) (fun w _ q => ⟨q, rfl⟩) (fun i hi w hw => by
    rw [h1 i hi, t_0]
    constructor
    · intro q; cases q
    · intro q
      have := q.1.1
      rw [q.2] at this
      cases this)
  refine ⟨m2, f1.tr f2, ?_, h2, h3⟩
  rw [Ai_take_e _ _ _ _ _ _ _ _ kd_46 hT.kd hP.kd, show (0 : Int32) = nI 0 from rfl]
  refine e1.trans ?_
  rw [Tk_size_e _ _ _ hT1.kd, hT1.2.2.1, bI_y]
  exact e2
