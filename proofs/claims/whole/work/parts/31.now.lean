/-! ===== the class's state ===== -/
theorem gd3 {o : oX} : gd 3 9 o = o := gd_y kd_3
theorem gd4 {o : oX} : gd 4 8 o = o := gd_y kd_4
theorem gd6 {o : oX} : gd 6 2 o = o := gd_y kd_6
theorem gd9 {o : oX} : gd 9 6 o = o := gd_y kd_9
theorem gd22 {o : oX} : gd 22 7 o = o := gd_y kd_22
theorem gd28 {o : oX} : gd 28 7 o = o := gd_y kd_28
theorem gd34 {o : oX} : gd 34 3 o = o := gd_y kd_34
theorem gd39 {o : oX} : gd 39 3 o = o := gd_y kd_39
theorem gd46 {o : oX} : gd 46 0 o = o := gd_y kd_46
theorem gd49 {o : oX} : gd 49 7 o = o := gd_y kd_49
theorem gd55 {o : oX} : gd 55 1 o = o := gd_y kd_55
theorem gd58 {o : oX} : gd 58 1 o = o := gd_y kd_58
theorem gd61 {o : oX} : gd 61 5 o = o := gd_y kd_61
/-- where a parish lies -/
def pOK (p : Nat) : Prop := p = 10 ∨ p = 69 ∨ p = 104 ∨ p = 139 ∨ p = 174 ∨ 259 ≤ p
/-- a state at s that holds a view -/
def CsP (v : eV) (s p : Nat) (m : eM) : Prop := (kk s = (6, 6) ∧ gR m s 0 = some p ∧ gR m s 1 = some (s + 13) ∧ gR m s 2 = some (s + 19) ∧ gR m s 3 = some (s + 25) ∧ gR m s 4 = some (s + 30)) ∧ gI m s 5 = nI (tru v) ∧ Pp v p m ∧ TkP v (s + 13) (nS v) (fun i => i) m ∧ TkP v (s + 19) (nO v) (fun i => 24 + i) m ∧ LkP (s + 25) (nL v) (lkC v) (lkM v) (lkF v) (lkT v) m ∧ LkP (s + 30) (nWt v) (wtC v) (wtM v) (fun _ => 0) (fun _ => 0) m
theorem CsP.fr {v : eV} {s p : Nat} {m m' : eM} {S : Nat → Nat → Bool} (h : CsP v s p m) (f : Fr S m m') (h1 : ∀ j, S s j = false) (h2 : ∀ a j, s + 13 ≤ a → a ≤ s + 34 → S a j = false) (h3 : ∀ a j, p ≤ a → a ≤ p + 11 → S a j = false) : CsP v s p m' := by
  obtain ⟨⟨a0, a1, a2, a3, a4, a5⟩, b, c, d, e, g, i⟩ := h
  exact ⟨⟨a0, (f.r _ _).trans a1, (f.r _ _).trans a2, (f.r _ _).trans a3, (f.r _ _).trans a4, (f.r _ _).trans a5⟩, (f.1 _ _ (h1 _)).trans b, c.fr f h3, d.fr f fun a j x y => h2 a j (by omega) (by omega), e.fr f fun a j x y => h2 a j (by omega) (by omega), g.fr f fun a j x y => h2 a j (by omega) (by omega), i.fr f fun a j x y => h2 a j (by omega) (by omega)⟩
/-- the class holds a view now -/
def Cn (v : eV) (p : Nat) (m : eM) : Prop := CsP v 9 p m ∧ Ss m ∧ Sk m ∧ pOK p
/-- what a question of the class may write -/
def sK (a _ : Nat) : Bool := decide (46 ≤ a ∧ a ≤ 67)
theorem sK_n {a j : Nat} (h : a < 46 ∨ 67 < a) : sK a j = false := decide_eq_false (by omega)
theorem Cn.sk {v : eV} {p : Nat} {m : eM} (h : Cn v p m) : Sk m := h.2.2.1
theorem Cn.ss {v : eV} {p : Nat} {m : eM} (h : Cn v p m) : Ss m := h.2.1
theorem Cn.p {v : eV} {p : Nat} {m : eM} (h : Cn v p m) : Pp v p m := h.1.2.2.1
theorem Cn.t {v : eV} {p : Nat} {m : eM} (h : Cn v p m) : TkP v 22 (nS v) (fun i => i) m := h.1.2.2.2.1
theorem Cn.o {v : eV} {p : Nat} {m : eM} (h : Cn v p m) : TkP v 28 (nO v) (fun i => 24 + i) m := h.1.2.2.2.2.1
theorem Cn.l {v : eV} {p : Nat} {m : eM} (h : Cn v p m) : LkP 34 (nL v) (lkC v) (lkM v) (lkF v) (lkT v) m := h.1.2.2.2.2.2.1
theorem Cn.w {v : eV} {p : Nat} {m : eM} (h : Cn v p m) : LkP 39 (nWt v) (wtC v) (wtM v) (fun _ => 0) (fun _ => 0) m := h.1.2.2.2.2.2.2
theorem Cn.tr {v : eV} {p : Nat} {m : eM} (h : Cn v p m) : gI m 9 5 = nI (tru v) := h.1.2.1
theorem Cn.r0 {v : eV} {p : Nat} {m : eM} (h : Cn v p m) : gR m 9 0 = some p := h.1.1.2.1
theorem Cn.gp {v : eV} {p : Nat} {m : eM} (h : Cn v p m) {o : oX} : gd p 4 o = o := gd_y h.p.kd
theorem Cn.of {v : eV} {p : Nat} {m : eM} (h : Cn v p m) : ofA 22 p := ⟨by omega, by rcases h.2.2.2 with z | z | z | z | z | z <;> omega⟩
theorem Cn.fr {v : eV} {p : Nat} {m m' : eM} {S : Nat → Nat → Bool} (h : Cn v p m) (f : Fr S m m') (hS : ∀ a j, sK a j = false → S a j = false) : Cn v p m' := by
  have hp := h.2.2.2
  refine ⟨h.1.fr f (fun j => hS _ _ (sK_n (by omega))) (fun a j x y => hS _ _ (sK_n (by omega))) (fun a j x y => hS _ _ (sK_n ?_)), h.2.1.fr f (fun j => hS _ _ rfl) (fun j => hS _ _ rfl), f.sk h.2.2.1, hp⟩
  rcases hp with z | z | z | z | z | z <;> omega
theorem Cn.q {v : eV} {p : Nat} {m m' : eM} (h : Cn v p m) (f : Fr sK m m') : Cn v p m' := h.fr f fun _ _ z => z
theorem sA_K {m m' : eM} (f : Fr sA m m') : Fr sK m m' := f.up fun a j h => by
  have : ¬ (46 ≤ a ∧ a ≤ 67) := of_decide_eq_false h
  exact sA_n (by omega) (by omega)
theorem peB_be {v : eV} (hv : Va v) {i : Nat} (h : i = 6 ∨ i < nP v) : peB v i = beN v i := by
  have := hv.p
  unfold peB beN
  rcases h with z | z
  · rw [if_neg (by omega), if_pos z]
  · rw [if_pos z, if_neg (by omega)]
theorem LC_isWithin_s (d : Nat) {b x y : Nat} (hb : b < 1000) (hx : x < 1000) (hy : y < 1000) (m : eM) : LC_isWithin d (nI b) (nI x) (nI y) m = yI (bb (wiB b x y)) m := (LC_isWithin_e d _ _ _ m).trans ((Mo_isWithin_e d _ _ _ m).symm.trans (Mo_isWithin_s d hb hx hy m))
theorem Ai_within_6_s {v : eV} (hv : Va v) {p : Nat} {m : eM} (hP : Pp v p m) (hs : Sk m) (d : Nat) {x y : Nat} (hx : x < 360) (hy : y < 360) : ∀ j k z, k + j = 7 → (∀ w, w < 64 → (tb z w = true ↔ ∃ i, i < k ∧ wiB (peB v i) x y = true ∧ tb (gL m 47 i) w = true)) → ∃ z', Ai_within_6 (d + 1) 46 p (nI x) (nI y) z (nI k) m = yL z' m ∧ ∀ w, w < 64 → (tb z' w = true ↔ ∃ i, i < 7 ∧ wiB (peB v i) x y = true ∧ tb (gL m 47 i) w = true)
  | 0, k, z, e, hz => by
    refine ⟨z, ?_, fun w hw => by rw [hz w hw, show k = 7 by omega]⟩
    rw [Ai_within_6_e _ _ _ _ _ _ _ _ kd_46 hP.kd, rf_46_0 hs, bR_s, gl_47, al_47, toI, if_pos (by rw [n_le (by omega) (by omega)]; omega)]
  | j + 1, k, z, e, hz => by
    have hb := pe_lt hv k
    have step : ∀ z2, (∀ w, w < 64 → (tb z2 w = true ↔ tb z w = true ∨ (wiB (peB v k) x y = true ∧ tb (gL m 47 k) w = true))) → ∃ z', Ai_within_6 (d + 1) 46 p (nI x) (nI y) z2 (nI (k + 1)) m = yL z' m ∧ ∀ w, w < 64 → (tb z' w = true ↔ ∃ i, i < 7 ∧ wiB (peB v i) x y = true ∧ tb (gL m 47 i) w = true) := fun z2 h2 => Ai_within_6_s hv hP hs d hx hy j (k + 1) z2 (by omega) fun w hw => by
      rw [h2 w hw, hz w hw]
      constructor
      · rintro (⟨i, a, b, c⟩ | q)
        · exact ⟨i, by omega, b, c⟩
        · exact ⟨k, by omega, q⟩
      · rintro ⟨i, a, b, c⟩
        by_cases q : i = k
        · subst q; exact Or.inr ⟨b, c⟩
        · exact Or.inl ⟨i, by omega, b, c⟩
    rw [Ai_within_6_e _ _ _ _ _ _ _ _ kd_46 hP.kd, rf_46_0 hs, bR_s, gl_47, al_47, toI, if_neg (by rw [n_le (by omega) (by omega)]; omega), Pa_bearing_p hv hP _ (by omega), bI_y, LC_isWithin_s _ (by omega) (by omega) (by omega), br0, rf_46_0 hs, bR_s, ga_47 (by omega), n_cl (by omega), nI_1]
    by_cases q : wiB (peB v k) x y = true
    · rw [if_pos q]
      exact step _ fun w hw => by rw [t_or, Bool.or_eq_true]; simp [q]
    · rw [if_neg q]
      exact step _ fun w hw => by rw [t_or, t_0]; simp [q]
theorem LC_fitting_s {v : eV} (hv : Va v) {p : Nat} {m : eM} (h : Cn v p m) {D : Nat} (hD : 3 ≤ D) {l : Nat} (hl : l < nL v) : ∃ m', Fr sA m m' ∧ LC_fitting D 3 (nI l) m = yL (fitM v l) m' := by
  obtain ⟨d, rfl⟩ : ∃ d, D = d + 3 := ⟨D - 3, by omega⟩
  obtain ⟨k1, k2, k3, k4⟩ := hv.lk hl
  obtain ⟨m1, f1, e1, h1, -⟩ := Ai_take_s hv (show 2 ≤ d + 2 by omega) k1 (show lkM v l < 2000 by omega) (allM v) h.of h.t h.p h.sk
  have hc := h.q (sA_K f1)
  obtain ⟨z', e2, h2⟩ := Ai_within_6_s hv hc.p hc.sk (d + 1) k3 k4 7 0 0 (by omega) (fun w hw => by
    rw [t_0]
    exact ⟨fun q => (by cases q), fun ⟨i, a, _⟩ => absurd a (Nat.not_lt_zero i)⟩)
  refine ⟨m1, f1, ?_⟩
  have hs := h.sk
  have hs1 := hc.sk
  rw [LC_fitting_e _ _ _ _ kd_3]
  simp only [rf_3_2 hs, rf_3_5 hs, rf_9_1 hs, rf_9_3 hs, h.r0, bR_s, gd9, gd34, gd46, h.gp, Lo_cock_s h.l (show 1 ≤ d + 2 by omega) hl, Lo_minute_s h.l (show 1 ≤ d + 2 by omega) hl, bI_y, Pa_allWorlds_s hv h.p, bL_y, e1, bV_y, rf_3_2 hs1, rf_3_5 hs1, hc.r0, Lo_from_s hc.l (show 1 ≤ d + 2 by omega) hl, Lo_to_s hc.l (show 1 ≤ d + 2 by omega) hl]
  rw [Ai_within_e _ _ _ _ _ _ kd_46 hc.p.kd, show (0 : Int32) = nI 0 from rfl, e2, bL_y]
  refine congrArg (yL · m1) (mk_e fun w hw => ?_)
  rw [Bool.eq_iff_iff, h2 w hw]
  have hpt := pt0_le hv (c := lkC v l) (mn := lkM v l) (w := w)
  have hp := hv.p
  constructor
  · rintro ⟨i, a, b, c⟩
    have := (h1 i a w hw).mp c
    unfold pB allM at this
    rw [t_mk _ hw, decide_eq_true_iff] at this
    rw [decide_eq_true this.1, Bool.true_and]
    unfold fitV
    rw [← peB_be hv hpt]
    unfold pt0
    rw [this.2]
    exact b
  · intro q
    rw [Bool.and_eq_true, decide_eq_true_iff] at q
    refine ⟨pt0 v (lkC v l) (lkM v l) w, by omega, ?_, (h1 _ (by omega) w hw).mpr ⟨?_, rfl⟩⟩
    · rw [peB_be hv hpt]; exact q.2
    · unfold allM; rw [t_mk _ hw]; exact decide_eq_true q.1
theorem canN_0 {v : eV} {n : Nat} (h : canN v n = 0) : ∀ k, canN v (n + k) = 0
  | 0 => h
  | k + 1 => by
    show canN v (n + k) &&& fitM v (n + k) = 0
    rw [canN_0 h k]
    exact t_ext fun i hi => by rw [t_and, t_0, Bool.false_and]
theorem LC_possible_13_s {v : eV} (hv : Va v) {p : Nat} (d : Nat) : ∀ j l m, Cn v p m → l + j = nL v → ∃ m', Fr sA m m' ∧ LC_possible_13 (d + 4) 3 (canN v l) (nI l) m = yL (canV v) m'
  | 0, l, m, h, e => by
    have hll := hv.l
    have hs := h.sk
    refine ⟨m, Fr.rfl', ?_⟩
    rw [LC_possible_13_e _ _ _ _ _ kd_3, rf_3_2 hs, bR_s, gd9, rf_9_3 hs, bR_s, gd34, Lo_size_e _ _ _ kd_34, h.l.2.2.1, bI_y, if_pos (by rw [n_le (by omega) (by omega)]; omega)]
    unfold canV
    rw [show nL v = l by omega]
  | j + 1, l, m, h, e => by
    have hll := hv.l
    have hs := h.sk
    rw [LC_possible_13_e _ _ _ _ _ kd_3, rf_3_2 hs, bR_s, gd9, rf_9_3 hs, bR_s, gd34, Lo_size_e _ _ _ kd_34, h.l.2.2.1, bI_y, if_neg (by rw [n_le (by omega) (by omega)]; omega)]
    by_cases z : canN v l = 0
    · refine ⟨m, Fr.rfl', ?_⟩
      rw [if_pos ((cmp0 _ _).mpr z)]
      unfold canV
      rw [show nL v = l + (j + 1) by omega, canN_0 z, z]
    · obtain ⟨m1, f1, e1⟩ := LC_fitting_s hv h (show 3 ≤ d + 3 by omega) (show l < nL v by omega)
      obtain ⟨m2, f2, e2⟩ := LC_possible_13_s hv d j (l + 1) m1 (h.q (sA_K f1)) (by omega)
      refine ⟨m2, f1.tr f2, ?_⟩
      rw [if_neg (fun q => z ((cmp0 _ _).mp q)), e1, bL_y, nI_1]
      exact e2
theorem LC_possible_s {v : eV} (hv : Va v) {p : Nat} {m : eM} (h : Cn v p m) {D : Nat} (hD : 4 ≤ D) : ∃ m', Fr sA m m' ∧ LC_possible D 3 m = yL (canV v) m' := by
  obtain ⟨d, rfl⟩ : ∃ d, D = d + 4 := ⟨D - 4, by omega⟩
  obtain ⟨m1, f1, e1⟩ := LC_possible_13_s hv d (nL v) 0 m h (by omega)
  have hs := h.sk
  refine ⟨m1, f1, ?_⟩
  rw [LC_possible_e _ _ _ kd_3, rf_3_2 hs, bR_s, gd9, h.r0, bR_s, h.gp, Pa_commonWorlds_s h.p, bL_y, show (0 : Int32) = nI 0 from rfl]
  exact e1
/-! ===== the class's answers ===== -/
theorem LC_isMinute_s (d : Nat) (x : Int32) (m : eM) : LC_isMinute d x m = yI (bb (inN x 1440)) m := by
  rw [LC_isMinute_e, l_1439]
  simp only [lt_succ (n := 1439) (x := x) (by decide)]
  rw [inN_t, yI_if]
theorem LC_isBearing_s (d : Nat) (x : Int32) (m : eM) : LC_isBearing d x m = yI (bb (inN x 360)) m := by
  rw [LC_isBearing_e, l_359]
  simp only [lt_succ (n := 359) (x := x) (by decide)]
  rw [inN_t, yI_if]
theorem LC_points_s {v : eV} (hv : Va v) {p : Nat} {m : eM} (h : Cn v p m) {D : Nat} (hD : 3 ≤ D) (c mn w : Int32) : ∃ m', Fr sK m m' ∧ LC_points D 3 c mn w m = yI (sp_points v c mn w) m' := by
  obtain ⟨d, rfl⟩ : ∃ d, D = d + 3 := ⟨D - 3, by omega⟩
  have hs := h.sk
  have hW := W_le hv
  refine ⟨m, Fr.rfl', ?_⟩
  rw [LC_points_e _ _ _ _ _ _ kd_3]
  simp only [rf_3_2 hs, rf_9_1 hs, h.r0, bR_s, gd9, gd22, h.gp, Pa_isThere_s hv h.p (show 1 ≤ d + 2 by omega), LC_isMinute_s, Pa_isWorld_s hv h.p, br0, br1]
  unfold sp_points
  by_cases z1 : thr v c = true
  · by_cases z2 : inN mn 1440 = true
    · by_cases z3 : inN w (2 ^ nF v) = true
      · simp only [if_pos z1, if_pos z2, if_pos z3]
        obtain ⟨k1, hk1, rfl, -⟩ := thr_of z1
        obtain ⟨k2, hk2, rfl⟩ := inN_of (by decide) z2
        obtain ⟨k3, hk3, rfl⟩ := inN_of (by omega) z3
        rw [Tk_lastLiar_s hv h.t h.p (by omega) hk1 (by omega) (by omega), bI_y, n_cl (by omega), n_cl (by omega), n_cl (by omega)]
        rfl
      · simp only [if_pos z1, if_pos z2, if_neg z3]
    · simp only [if_pos z1, if_neg z2]
  · simp only [if_neg z1]
theorem canV_com {v : eV} {w : Nat} (h : tb (canV v) w = true) : tb (com v) w = true := by
  have : ∀ n, tb (canN v n) w = true → tb (com v) w = true := by
    intro n
    induction n with
    | zero => exact fun z => z
    | succ n ih =>
      intro z
      apply ih
      have z : tb (canN v n &&& fitM v n) w = true := z
      rw [t_and, Bool.and_eq_true] at z
      exact z.1
  exact this _ h
theorem LC_world_s {v : eV} (hv : Va v) {p : Nat} {m : eM} (h : Cn v p m) {D : Nat} (hD : 5 ≤ D) (w : Int32) : ∃ m', Fr sK m m' ∧ LC_world D 3 w m = yI (sp_world v w) m' := by
  obtain ⟨d, rfl⟩ : ∃ d, D = d + 5 := ⟨D - 5, by omega⟩
  have hs := h.sk
  have hW := W_le hv
  rw [LC_world_e _ _ _ _ kd_3]
  simp only [rf_3_2 hs, h.r0, bR_s, gd9, h.gp, Pa_isWorld_s hv h.p, Pa_commonWorlds_s h.p, bL_y, br1]
  unfold sp_world
  by_cases z3 : inN w (2 ^ nF v) = true
  · simp only [if_pos z3]
    obtain ⟨k3, hk3, rfl⟩ := inN_of (by omega) z3
    rw [LC_holds_s _ _ (by omega), br1, n_cl (by omega)]
    by_cases y : tb (com v) k3 = true
    · obtain ⟨m1, f1, e1⟩ := LC_possible_s hv h (show 4 ≤ d + 4 by omega)
      refine ⟨m1, sA_K f1, ?_⟩
      rw [if_pos y, e1, bL_y, LC_holds_s _ _ (by omega), br0]
      by_cases y2 : tb (canV v) k3 = true
      · rw [if_pos y2, if_pos y2]
      · rw [if_neg y2, if_neg y2, if_pos y]
    · refine ⟨m, Fr.rfl', ?_⟩
      rw [if_neg y, if_neg (fun q => y (canV_com q)), if_neg y]
  · simp only [if_neg z3]
    exact ⟨_, Fr.rfl', rfl⟩
