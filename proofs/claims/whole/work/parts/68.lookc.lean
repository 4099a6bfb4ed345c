/-! ===== LOOKOUT: the class ===== -/
theorem Ai_at_s {m : eM} (hs : Sk m) (d : Nat) {u : Nat} (hu : u < 7) : Ai_at d 46 (nI u) m = yL (gL m 47 u) m := by
  rw [Ai_at_e _ _ _ _ kd_46, if_neg (nI_pos (by omega)), rf_46_0 hs, bR_s, gl_47, al_47, toI, if_neg (by rw [n_le (by omega) (by omega)]; omega), bR_s, ga_47 (by omega), n_cl (by omega)]
theorem Ai_group_s {m : eM} (hs : Sk m) (d : Nat) {u : Nat} (hu : u < 7) : Ai_group d 46 (nI u) m = yL (gL m 48 u) m := by
  rw [Ai_group_e _ _ _ _ kd_46, if_neg (nI_pos (by omega)), rf_46_1 hs, bR_s, gl_48, al_48, toI, if_neg (by rw [n_le (by omega) (by omega)]; omega), bR_s, ga_48 (by omega), n_cl (by omega)]
/-- what the class' search may write -/
def sSe (a _ : Nat) : Bool := decide (47 ≤ a ∧ a ≤ 65)
theorem sSe_K {m m' : eM} (f : Fr sSe m m') : Fr sK m m' := f.up fun a j h => by
  have h : decide (46 ≤ a ∧ a ≤ 67) = false := h
  rw [decide_eq_false_iff_not] at h
  exact decide_eq_false (by omega)
/-- the turns that the class holds -/
def SeP (v : eV) (c N : Nat) (S : Nat → Nat) (m : eM) : Prop := gI m 61 4 = nI N ∧ N ≤ 24 ∧ gL m 61 5 = canV v ∧ (∀ t, t < N → gI m 62 t = nI (S t)) ∧ ∀ t, t < N → ∀ q, q < 7 → gL m 63 (t * 7 + q) = mk fun w => tb (canV v) w && decide (fir v (pt0 v c (S t) w) = q)
theorem SeP.fr {v : eV} {c N : Nat} {S : Nat → Nat} {m m' : eM} {T : Nat → Nat → Bool} (h : SeP v c N S m) (f : Fr T m m') (h1 : T 61 4 = false) (h2 : T 61 5 = false) (h3 : ∀ j, T 62 j = false) (h4 : ∀ j, T 63 j = false) : SeP v c N S m' := ⟨(f.1 _ _ h1).trans h.1, h.2.1, (f.2.1 _ _ h2).trans h.2.2.1, fun t ht => (f.1 _ _ (h3 _)).trans (h.2.2.2.1 t ht), fun t ht q hq => (f.2.1 _ _ (h4 _)).trans (h.2.2.2.2 t ht q hq)⟩
/-- the masks of the minute before -/
def BfP (v : eV) (c s : Nat) (m : eM) : Prop := ∀ q, q < 7 → ∀ w, w < 64 → (tb (gL m 64 q) w = true ↔ tb (canV v) w = true ∧ bfV v c s w = q)
theorem Se_note_96_s {v : eV} (d : Nat) (mn x3 : Int32) {N : Nat} (hN : N < 24) : ∀ j u m, Sk m → gI m 61 4 = nI N → (∀ q, q < u → gL m 63 (N * 7 + q) = gL m 48 q) → u + j = 7 → ∃ m', Fr (fun a k => a == 63 && decide (N * 7 ≤ k)) m m' ∧ Se_note_96 (d + 1) 61 46 mn x3 (nI u) m = yV (sI m' 61 4 (nI (N + 1))) ∧ ∀ q, q < 7 → gL m' 63 (N * 7 + q) = gL m 48 q
  | 0, u, m, hs, h4, hu, e => by
    refine ⟨m, Fr.rfl', ?_, fun q hq => hu q (by omega)⟩
    rw [Se_note_96_e _ _ _ _ _ _ _ kd_61 kd_46, l_7, if_pos (by rw [n_le (by omega) (by omega)]; omega), h4, nI_1, mI_u]
  | j + 1, u, m, hs, h4, hu, e => by
    have f1 : Fr (fun a k => a == 63 && decide (N * 7 ≤ k)) m (sL m 63 (N * 7 + u) (gL m 48 u)) := Fr.rfl'.l (by simp)
    obtain ⟨m', f2, e2, h2⟩ := Se_note_96_s (v := v) d mn x3 hN j (u + 1) _ (f1.sk hs) h4 (fun q hq => by
      rw [gL_sL, gL_sL]
      by_cases y : q = u
      · rw [if_pos ⟨rfl, by rw [y]⟩, if_neg (fun z => absurd z.1 (by decide)), y]
      · rw [if_neg (by omega), if_neg (fun z => absurd z.1 (by decide))]; exact hu q (by omega)) (by omega)
    refine ⟨m', f1.tr f2, ?_, fun q hq => (h2 q hq).trans (by rw [gL_sL, if_neg (fun z => absurd z.1 (by decide))])⟩
    rw [Se_note_96_e _ _ _ _ _ _ _ kd_61 kd_46, l_7, if_neg (by rw [n_le (by omega) (by omega)]; omega), rf_61_1 hs, bR_s, gl_63, al_63, toI, h4, nI_mul, nI_add, if_neg (by rw [n_le (by omega) (by omega)]; omega), bR_s, Ai_group_s hs _ (by omega), bL_y, gw_63 (by omega), n_cl (by omega), mJ_u, nI_1]
    exact e2
/-- what note does at the end -/
theorem Se_note_end {v : eV} (d : Nat) {mn : Nat} (hm : mn < 2000) {c N : Nat} {S : Nat → Nat} (hN : N < 24) (B : Bool) {m : eM} (hs : Sk m) (hP : SeP v c N S m) (hg : ∀ q, q < 7 → gL m 48 q = mk fun w => tb (canV v) w && decide (fir v (pt0 v c mn w) = q)) : ∃ m', Fr (fun a k => a == 62 || a == 63 || (a == 61 && k == 4)) m m' ∧ Se_note_5 (d + 1) 61 46 (nI mn) (bb B) (nI 7) m = yV m' ∧ (B = false → SeP v c N S m') ∧ (B = true → SeP v c (N + 1) (fun j => if j = N then mn else S j) m') := by
  cases B with
  | false =>
    refine ⟨m, Fr.rfl', ?_, fun _ => hP, fun q => by cases q⟩
    rw [Se_note_5_e _ _ _ _ _ _ _ kd_61 kd_46, rf_61_2 hs, bR_s, gl_64, al_64, toI, if_pos (by rw [n_le (by omega) (by omega)]; omega), bb_f, if_pos rfl]
  | true =>
    have f1 : Fr (fun a k => a == 62 || a == 63 || (a == 61 && k == 4)) m (sI m 62 N (nI mn)) := Fr.rfl'.i (by simp)
    obtain ⟨m', f2, e2, h2⟩ := Se_note_96_s (v := v) d (nI mn) 1 hN 7 0 _ (f1.sk hs) (show gI (sI m 62 N (nI mn)) 61 4 = nI N from hP.1) (fun q hq => absurd hq (Nat.not_lt_zero _)) rfl
    have f2' : Fr (fun a k => a == 62 || a == 63 || (a == 61 && k == 4)) (sI m 62 N (nI mn)) m' := f2.up fun a k q => by
      by_cases a1 : a = 63
      · subst a1; cases q
      · simp [a1]
    have f3 : Fr (fun a k => a == 62 || a == 63 || (a == 61 && k == 4)) m' (sI m' 61 4 (nI (N + 1))) := Fr.rfl'.i rfl
    refine ⟨_, (f1.tr f2').tr f3, ?_, fun q => (by cases q), fun _ => ⟨gI_w _ _ _ _, by omega, ?_, fun t ht => ?_, fun t ht q hq => ?_⟩⟩
    · rw [Se_note_5_e _ _ _ _ _ _ _ kd_61 kd_46, rf_61_2 hs, bR_s, gl_64, al_64, toI, if_pos (by rw [n_le (by omega) (by omega)]; omega), bb_t, if_neg (by decide), hP.1, if_neg (nI_pos (by omega)), rf_61_0 hs, bR_s, gl_62, al_62, toI, if_pos (by rw [n_lt (by omega) (by omega)]; omega), bR_s, gw_62 (by omega), n_cl (by omega), mI_u]
      exact e2
    · show gL m' 61 5 = canV v
      rw [f2.2.1 61 5 rfl]
      exact hP.2.2.1
    · show gI m' 62 t = nI (if t = N then mn else S t)
      rw [f2.1 62 t rfl, gI_sI]
      by_cases y : t = N
      · rw [if_pos ⟨rfl, y⟩, if_pos y]
      · rw [if_neg (fun z => y z.2), if_neg y]
        exact hP.2.2.2.1 t (by omega)
    · show gL m' 63 (t * 7 + q) = mk fun w => tb (canV v) w && decide (fir v (pt0 v c (if t = N then mn else S t) w) = q)
      by_cases y : t = N
      · rw [if_pos y, y, h2 q hq]
        exact hg q hq
      · rw [if_neg y, f2.2.1 63 _ (by simp; omega)]
        exact hP.2.2.2.2 t (by omega) q hq
theorem Se_note_5_s {v : eV} (d : Nat) {mn : Nat} (hm : mn < 2000) {c N : Nat} {S : Nat → Nat} (hN : N < 24) (A : Nat → Int64) : ∀ j u (F : Bool) m, Sk m → SeP v c N S m → (∀ q, q < 7 → gL m 48 q = mk fun w => tb (canV v) w && decide (fir v (pt0 v c mn w) = q)) → (∀ q, q < 7 → gL m 47 q = A q) → (∀ q, q < u → gL m 64 q = A q) → u + j = 7 → ∃ m' B, Fr (fun a k => a == 62 || a == 63 || a == 64 || (a == 61 && k == 4)) m m' ∧ Se_note_5 (d + 1) 61 46 (nI mn) (bb F) (nI u) m = yV m' ∧ (B = true ↔ F = true ∨ ∃ q, u ≤ q ∧ q < 7 ∧ gL m 64 q ≠ A q) ∧ (B = false → SeP v c N S m') ∧ (B = true → SeP v c (N + 1) (fun j => if j = N then mn else S j) m') ∧ ∀ q, q < 7 → gL m' 64 q = A q
  | 0, u, F, m, hs, hP, hg, hA, hu, e => by
    have : u = 7 := by omega
    subst this
    obtain ⟨m', f1, e1, h1, h2⟩ := Se_note_end d hm hN F hs hP hg
    refine ⟨m', F, f1.up fun a k q => ?_, e1, ⟨Or.inl, fun q => ?_⟩, h1, h2, fun q hq => ?_⟩
    · by_cases a1 : a = 62
      · subst a1; cases q
      · by_cases a2 : a = 63
        · subst a2; cases q
        · by_cases a3 : a = 61
          · subst a3
            have q : ((61 : Nat) == 61 && k == 4) = false := q
            simp at q
            simp [q]
          · simp [a1, a2, a3]
    · rcases q with q | ⟨q, q1, q2, -⟩
      · exact q
      · omega
    · rw [f1.2.1 64 q rfl]; exact hu q hq
  | j + 1, u, F, m, hs, hP, hg, hA, hu, e => by
    have f1 : Fr (fun a k => a == 62 || a == 63 || a == 64 || (a == 61 && k == 4)) m (sL m 64 u (A u)) := Fr.rfl'.l rfl
    have hP1 : SeP v c N S (sL m 64 u (A u)) := hP.fr (T := fun a _ => a == 64) (Fr.rfl'.l rfl) rfl rfl (fun _ => rfl) (fun _ => rfl)
    have st : Se_note_5 (d + 1) 61 46 (nI mn) (bb F) (nI u) m = Se_note_5 (d + 1) 61 46 (nI mn) (bb (F || dcd (gL m 64 u ≠ A u))) (nI (u + 1)) (sL m 64 u (A u)) := by
      rw [Se_note_5_e _ _ _ _ _ _ _ kd_61 kd_46, rf_61_2 hs, bR_s, gl_64, al_64, toI, if_neg (by rw [n_le (by omega) (by omega)]; omega), bR_s, ga_64 (by omega), Ai_at_s hs _ (by omega), bL_y, n_cl (by omega), hA u (by omega), nI_1]
      by_cases z : gL m 64 u = A u
      · rw [if_pos ((cmp0 _ _).mpr z), rf_61_2 hs, bR_s, Ai_at_s hs _ (by omega), bL_y, hA u (by omega), gw_64 (by omega), mJ_u, (dcd_f _).mpr (fun q => q z)]
        cases F <;> rfl
      · rw [if_neg (fun q => z ((cmp0 _ _).mp q)), rf_61_2 hs, bR_s, Ai_at_s hs _ (by omega), bL_y, hA u (by omega), gw_64 (by omega), mJ_u, (dcd_i _).mpr z]
        cases F <;> rfl
    obtain ⟨m', B, f2, e2, h2, h3, h4, h5⟩ := Se_note_5_s d hm hN A j (u + 1) (F || dcd (gL m 64 u ≠ A u)) _ (f1.sk hs) hP1 (fun q hq => by rw [gL_sL, if_neg (fun z => absurd z.1 (by decide))]; exact hg q hq) (fun q hq => by rw [gL_sL, if_neg (fun z => absurd z.1 (by decide))]; exact hA q hq) (fun q hq => by
      rw [gL_sL]
      by_cases y : q = u
      · rw [if_pos ⟨rfl, y⟩, y]
      · rw [if_neg (fun z => y z.2)]; exact hu q (by omega)) (by omega)
    refine ⟨m', B, f1.tr f2, st.trans e2, h2.trans ?_, h3, h4, h5⟩
    rw [Bool.or_eq_true, dcd_i]
    constructor
    · rintro ((q | q) | ⟨q, q1, q2, q3⟩)
      · exact Or.inl q
      · exact Or.inr ⟨u, Nat.le_refl _, by omega, q⟩
      · rw [gL_sL, if_neg (by omega)] at q3
        exact Or.inr ⟨q, by omega, q2, q3⟩
    · rintro (q | ⟨q, q1, q2, q3⟩)
      · exact Or.inl (Or.inl q)
      · by_cases y : q = u
        · subst y; exact Or.inl (Or.inr q3)
        · exact Or.inr ⟨q, by omega, q2, by rw [gL_sL, if_neg (fun z => y z.2)]; exact q3⟩
theorem bf_7 {v : eV} (hv : Va v) (c s w : Nat) : bfV v c s w < 7 := by
  unfold bfV
  by_cases z : s = 0
  · rw [if_pos z]; decide
  · rw [if_neg z]; exact pt0_7 hv _ _ _
/-- the masks differ just where some world turns -/
theorem trn_m {v : eV} (hv : Va v) {c s : Nat} {m : eM} {A : Nat → Int64} (hB : BfP v c s m) (hA : ∀ i, i < 7 → ∀ w, w < 64 → (tb (A i) w = true ↔ tb (canV v) w = true ∧ pt0 v c (mnV v c s) w = i)) : (∃ q, q < 7 ∧ gL m 64 q ≠ A q) ↔ trnP v c s := by
  constructor
  · rintro ⟨q, hq, hne⟩
    rcases Classical.em (trnP v c s) with z | z
    · exact z
    · exfalso
      apply hne
      refine t_ext fun w hw => ?_
      have e : ∀ {a b : Bool}, (a = true ↔ b = true) → a = b := by intro a b; cases a <;> cases b <;> simp
      apply e
      rw [hB q hq w hw, hA q hq w hw]
      constructor
      · rintro ⟨h1, h2⟩
        refine ⟨h1, ?_⟩
        rcases Classical.em (bfV v c s w = pt0 v c (mnV v c s) w) with y | y
        · rw [← y]; exact h2
        · exact absurd ⟨w, hw, h1, y⟩ z
      · rintro ⟨h1, h2⟩
        refine ⟨h1, ?_⟩
        rcases Classical.em (bfV v c s w = pt0 v c (mnV v c s) w) with y | y
        · rw [y]; exact h2
        · exact absurd ⟨w, hw, h1, y⟩ z
  · rintro ⟨w, hw, h1, h2⟩
    have h7 := bf_7 hv c s w
    refine ⟨bfV v c s w, h7, fun q => ?_⟩
    have a1 := (hB _ h7 w hw).mpr ⟨h1, rfl⟩
    rw [q] at a1
    exact h2 ((hA _ h7 w hw).mp a1).2.symm
/-- over the sayings -/
theorem Se_ask_53_s {v : eV} (hv : Va v) {p : Nat} (d : Nat) {c : Nat} (hc : c < 2) : ∀ j s w7 m, Cn v p m → SeP v c (tl v c s).1 (tl v c s).2 m → ((∀ i, i < s → mnV v c i < 1440) → BfP v c s m) → s + j = nS v → ∃ m', Fr sSe m m' ∧ Se_ask_53 (d + 3) 61 46 9 (nI c) (canV v) (nI s) w7 m = yV m' ∧ SeP v c (tl v c (nS v)).1 (tl v c (nS v)).2 m'
  | 0, s, w7, m, h, hP, hB, e => by
    have hs := h.sk
    have hS := hv.s
    refine ⟨m, Fr.rfl', ?_, by rw [show nS v = s by omega]; exact hP⟩
    rw [Se_ask_53_e _ _ _ _ _ _ _ _ _ kd_61 kd_46 kd_9, rf_9_1 hs, bR_s, gd22, Tk_size_e _ _ _ kd_22, h.t.2.2.1, bI_y, if_pos (by rw [n_le (by omega) (by omega)]; omega)]
  | j + 1, s, w7, m, h, hP, hB, e => by
    have hs := h.sk
    have hS := hv.s
    have hl := hv.lt hc
    have hle := tl_le v c s
    have hwn := hv.wn (j := s) (Or.inl (by omega))
    have em : whn v s + lat v c = mnV v c s := rfl
    rw [Se_ask_53_e _ _ _ _ _ _ _ _ _ kd_61 kd_46 kd_9, rf_9_1 hs, bR_s, gd22, Tk_size_e _ _ _ kd_22, h.t.2.2.1, bI_y, if_neg (by rw [n_le (by omega) (by omega)]; omega), rf_9_1 hs, bR_s, gd22, Tk_minute_s h.t (by omega) (by omega), bI_y, h.r0, bR_s, h.gp, Pa_late_s h.p (by omega) hc, bI_y, nI_add, em, l_1439, nI_1]
    by_cases z : mnV v c s < 1440
    · rw [if_neg (by rw [n_lt (by omega) (by omega)]; omega), rf_9_1 hs, bR_s, h.r0, bR_s]
      obtain ⟨m1, f1, e1, a1, a2⟩ := Ai_take_s hv (show 2 ≤ d + 2 by omega) hc (show mnV v c s < 2000 by omega) (canV v) h.of h.t h.p hs
      have h1 := h.q (sA_K f1)
      have hg := gr_t (fun w => by have := pt0_7 hv c (mnV v c s) w; exact this) a2
      have hB' := hB fun i hi => by
        have := mnV_mono hv (c := c) (show i ≤ s by omega) (by omega)
        omega
      have hB1 : BfP v c s m1 := fun q hq w hw => by rw [f1.2.1 64 q rfl]; exact hB' q hq w hw
      obtain ⟨m2, B, f2, e2, b1, b2, b3, b4⟩ := Se_note_5_s (v := v) (d + 1) (show mnV v c s < 2000 by omega) (c := c) (show (tl v c s).1 < 24 by omega) (fun q => gL m1 47 q) 7 0 false m1 h1.sk (hP.fr f1 rfl rfl (fun _ => rfl) (fun _ => rfl)) hg (fun _ _ => rfl) (fun q hq => absurd hq (Nat.not_lt_zero _)) rfl
      have f12 : Fr sSe m m2 := (f1.up fun a k q => sA_n (fun y => by subst y; cases q) (fun y => by subst y; cases q)).tr (f2.up fun a k q => by
        have q : decide (47 ≤ a ∧ a ≤ 65) = false := q
        rw [decide_eq_false_iff_not] at q
        simp
        omega)
      have hb : B = true ↔ trnP v c s := b1.trans (Iff.trans ⟨fun q => by
        rcases q with q | ⟨q, -, q2, q3⟩
        · cases q
        · exact ⟨q, q2, q3⟩, fun ⟨q, q2, q3⟩ => Or.inr ⟨q, Nat.zero_le _, q2, q3⟩⟩ (trn_m hv hB1 a1))
      have hP2 : SeP v c (tl v c (s + 1)).1 (tl v c (s + 1)).2 m2 := by
        by_cases y : trnP v c s
        · rw [tl_y z y]; exact b3 (hb.mpr y)
        · rw [tl_n (fun q => y q.2)]
          exact b2 (by cases hx : B; rfl; exact absurd (hb.mp hx) y)
      obtain ⟨m3, f3, e3, h3⟩ := Se_ask_53_s hv d hc j (s + 1) (.int (nI (mnV v c s))) m2 (h.q (sSe_K f12)) hP2 (fun _ q hq w hw => by
        rw [b4 q hq, a1 q hq w hw]
        unfold bfV
        rw [if_neg (by omega), Nat.add_sub_cancel]
        exact Iff.rfl) (by omega)
      refine ⟨m3, f12.tr f3, ?_, h3⟩
      rw [e1, bV_y, Se_note_e _ _ _ _ _ kd_61 kd_46]
      have e2 : Se_note_5 (d + 1 + 1) 61 46 (nI (mnV v c s)) 0 0 m1 = yV m2 := e2
      rw [e2, bV_y]
      exact e3
    · rw [if_pos (by rw [n_lt (by omega) (by omega)]; omega)]
      exact Se_ask_53_s hv d hc j (s + 1) _ m h (by rw [tl_n (fun q => z q.1)]; exact hP) (fun q => absurd (q s (by omega)) z) (by omega)
theorem Se_ask_14_s {v : eV} (hv : Va v) {p : Nat} (d : Nat) {c : Nat} (hc : c < 2) : ∀ j u m, Cn v p m → SeP v c 0 (fun _ => 0) m → (∀ q, q < u → gL m 64 q = if q = 6 then canV v else 0) → u + j = 7 → ∃ m', Fr sSe m m' ∧ Se_ask_14 (d + 3) 61 46 9 (nI c) (canV v) (nI u) m = yV m' ∧ SeP v c (tl v c (nS v)).1 (tl v c (nS v)).2 m'
  | 0, u, m, h, hP, hu, e => by
    have hs := h.sk
    rw [Se_ask_14_e _ _ _ _ _ _ _ _ kd_61 kd_46 kd_9, rf_61_2 hs, bR_s, gl_64, al_64, toI, if_pos (by rw [n_le (by omega) (by omega)]; omega)]
    exact Se_ask_53_s hv d hc (nS v) 0 eU m h hP (fun _ q hq w hw => by
      rw [hu q (by omega)]
      unfold bfV
      rw [if_pos rfl]
      by_cases y : q = 6
      · rw [if_pos y]; exact ⟨fun z => ⟨z, y.symm⟩, fun z => z.1⟩
      · rw [if_neg y, t_0]; exact ⟨fun z => (by cases z), fun z => absurd z.2.symm y⟩) (Nat.zero_add _)
  | j + 1, u, m, h, hP, hu, e => by
    have hs := h.sk
    have f1 : Fr sSe m (sL m 64 u (if u = 6 then canV v else 0)) := Fr.rfl'.l rfl
    obtain ⟨m', f2, e2, h2⟩ := Se_ask_14_s hv d hc j (u + 1) _ (h.q (sSe_K f1)) (hP.fr (T := fun a _ => a == 64) (Fr.rfl'.l rfl) rfl rfl (fun _ => rfl) (fun _ => rfl)) (fun q hq => by
      rw [gL_sL]
      by_cases y : q = u
      · rw [if_pos ⟨rfl, y⟩, y]
      · rw [if_neg (fun z => y z.2)]; exact hu q (by omega)) (by omega)
    refine ⟨m', f1.tr f2, ?_, h2⟩
    rw [Se_ask_14_e _ _ _ _ _ _ _ _ kd_61 kd_46 kd_9, rf_61_2 hs, bR_s, gl_64, al_64, toI, if_neg (by rw [n_le (by omega) (by omega)]; omega), bR_s, l_6, nI_1, ← e2]
    by_cases y : u = 6
    · rw [if_neg (by rw [n_eq (by omega) (by omega)]; exact fun q => q y), gw_64 (by omega), mJ_u, n_cl (by omega), if_pos y]
    · rw [if_pos (by rw [n_eq (by omega) (by omega)]; exact y), gw_64 (by omega), mJ_u, n_cl (by omega), if_neg y]
theorem Se_ask_s {v : eV} (hv : Va v) {p : Nat} {m : eM} (h : Cn v p m) {D : Nat} (hD : 3 ≤ D) {c : Nat} (hc : c < 2) : ∃ m', Fr sSe m m' ∧ Se_ask D 61 46 9 (nI c) (canV v) m = yV m' ∧ SeP v c (tl v c (nS v)).1 (tl v c (nS v)).2 m' := by
  obtain ⟨d, rfl⟩ : ∃ d, D = d + 3 := ⟨D - 3, by omega⟩
  have f1 : Fr sSe m (sL (sI m 61 4 0) 61 5 (canV v)) := (Fr.rfl'.i rfl).l rfl
  obtain ⟨m', f2, e2, h2⟩ := Se_ask_14_s hv d hc 7 0 _ (h.q (sSe_K f1)) ⟨(gI_sL _ _ _ _ _ _).trans (gI_w _ _ _ _), Nat.zero_le _, gL_w _ _ _ _, fun t ht => absurd ht (Nat.not_lt_zero _), fun t ht => absurd ht (Nat.not_lt_zero _)⟩ (fun q hq => absurd hq (Nat.not_lt_zero _)) rfl
  refine ⟨m', f1.tr f2, ?_, h2⟩
  rw [Se_ask_e _ _ _ _ _ _ _ kd_61 kd_46 kd_9, mI_u, mJ_u]
  exact e2
