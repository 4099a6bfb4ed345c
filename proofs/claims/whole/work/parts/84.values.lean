/-! ===== the class works an E out ===== -/
/-- the steps L stand at place i, and so many there are -/
def StA (L : List Int32) (i T : Nat) (m : eM) : Prop := (Sk m ∧ gI m 6 2 = nI T ∧ i + L.length ≤ T ∧ T ≤ 1000) ∧ ∀ k, k < L.length → gI m 7 (i + k) = L.getD k 0
def sFv (t a j : Nat) : Bool := (a == 6 && j == 3) || (a == 8 && decide (t ≤ j))
theorem sFv_n {t a j : Nat} (h1 : a ≠ 6 ∨ j ≠ 3) (h2 : a ≠ 8 ∨ j < t) : sFv t a j = false := by
  unfold sFv
  rw [Bool.or_eq_false_iff]
  constructor
  · rcases h1 with z | z <;> simp [z]
  · by_cases z : a = 8
    · rw [decide_eq_false (by omega), Bool.and_false]
    · simp [z]
theorem Fr.fvU {t u : Nat} {m m' : eM} (f : Fr (sFv u) m m') (h : t ≤ u) : Fr (sFv t) m m' := f.up fun a j q => by
  unfold sFv at q
  rw [Bool.or_eq_false_iff] at q
  refine sFv_n ?_ ?_
  · by_cases z : a = 6
    · subst z; right; intro z; subst z; simp at q
    · exact Or.inl z
  · by_cases z : a = 8
    · subst z; right; have := q.2; simp at this; omega
    · exact Or.inl z
theorem StA.fr {L : List Int32} {i T t : Nat} {m m' : eM} (h : StA L i T m) (f : Fr (sFv t) m m') : StA L i T m' := ⟨⟨f.sk h.1.1, (f.1 _ _ (sFv_n (by omega) (by omega))).trans h.1.2.1, h.1.2.2⟩, fun k hk => (f.1 _ _ (sFv_n (by omega) (by omega))).trans (h.2 k hk)⟩
theorem StA.ap {L1 L2 : List Int32} {i T : Nat} {m : eM} (h : StA (L1 ++ L2) i T m) : StA L1 i T m ∧ StA L2 (i + L1.length) T m := by
  have hl := h.1.2.2.1
  rw [List.length_append] at hl
  refine ⟨⟨⟨h.1.1, h.1.2.1, by omega, h.1.2.2.2⟩, fun k hk => ?_⟩, ⟨⟨h.1.1, h.1.2.1, by omega, h.1.2.2.2⟩, fun k hk => ?_⟩⟩
  · rw [h.2 k (by rw [List.length_append]; omega), List.getD_eq_getElem?_getD, List.getD_eq_getElem?_getD, List.getElem?_append_left hk]
  · rw [Nat.add_assoc, h.2 (L1.length + k) (by rw [List.length_append]; omega), List.getD_eq_getElem?_getD, List.getD_eq_getElem?_getD, List.getElem?_append_right (by omega), show L1.length + k - L1.length = k by omega]
/-- steps L leave v behind, with at most H of the stack -/
def EvC (L : List Int32) (v : Nat → Int32) (H : Nat) : Prop := ∀ d i T t w w3 w4 m, w < 64 → 1 ≤ d → StA L i T m → gI m 6 3 = nI t → t + H ≤ 64 → ∃ m' u3 u4, Fr (sFv t) m m' ∧ Fo_value_7 (d + 1) 6 (nI w) (nI i) w3 w4 m = Fo_value_7 (d + 1) 6 (nI w) (nI (i + L.length)) u3 u4 m' ∧ gI m' 6 3 = nI (t + 1) ∧ gI m' 8 t = v w
theorem Fo_push_s {m : eM} (hs : Sk m) {t : Nat} (h3 : gI m 6 3 = nI t) (ht : t < 64) (d : Nat) (x : Int32) : Fo_push d 6 x m = yV (sI (sI m 8 t x) 6 3 (nI (t + 1))) := by
  rw [Fo_push_e _ _ _ _ kd_6, h3, if_neg (nI_pos (by omega)), rf_6_1 hs, bR_s, gl_8, al_8, toI, if_neg (by rw [n_le (by omega) (by omega)]; omega), bR_s, gw_8 ht, mI_u, n_cl (by omega), gI_sI, if_neg (by omega), h3, mI_u, nI_1]
theorem Fo_pop_s {m : eM} (hs : Sk m) {t : Nat} (h3 : gI m 6 3 = nI (t + 1)) (ht : t < 64) (d : Nat) : Fo_pop d 6 m = yI (gI m 8 t) (sI m 6 3 (nI t)) := by
  rw [Fo_pop_e _ _ _ kd_6, h3, if_neg (by rw [show (0 : Int32) = nI 0 from rfl, n_le (by omega) (by omega)]; omega), rf_6_1 hs, bR_s, gl_8, al_8, toI, if_pos (by rw [n_le (by omega) (by omega)]; omega), show nI (t + 1) - 1 = nI t from n_s1 (Nat.succ_pos t), mI_u]
  show (bR (gR m 6 1) fun r3 => _) = _
  rw [rf_6_1 hs, bR_s, gI_w, ga_8 ht, n_cl (by omega), gI_sI, if_neg (by omega)]
theorem StA.at {x : Int32} {i T : Nat} {m : eM} (h : StA [x] i T m) : i < T ∧ gI m 7 i = x := by
  have h1 := h.1.2.2.1
  have h1 : i + 1 ≤ T := h1
  have h2 := h.2 0 (Nat.zero_lt_one)
  exact ⟨h1, h2⟩
/-- a step's node -/
theorem Fo_v7 {d i T : Nat} {x xw : Int32} {w3 w4 : Value} {m : eM} (h : StA [x] i T m) : Fo_value_7 (d + 1) 6 xw (nI i) w3 w4 m = (if x < 0 then (if x < (-6 : Int32) then (if ¬ x = (-10 : Int32) then (bI (Fo_pop d 6 m) fun v8 m7 => bI (Fo_pop d 6 m7) fun v10 m9 => bI (Fo_joined d x v10 v8 m9) fun v12 m11 => bV (Fo_push d 6 v12 m11) fun m13 => Fo_value_7 (d + 1) 6 xw (nI (i + 1)) (.int x) (.int v8) m13) else (bI (Fo_pop d 6 m) fun v15 m14 => if ¬ v15 = 0 then (bV (Fo_push d 6 (0 : Int32) m14) fun m16 => Fo_value_7 (d + 1) 6 xw (nI (i + 1)) (.int x) w4 m16) else (bV (Fo_push d 6 (1 : Int32) m14) fun m17 => Fo_value_7 (d + 1) 6 xw (nI (i + 1)) (.int x) w4 m17))) else (bV (Fo_push d 6 ((xw >>> (((-1 : Int32) - x) &&& 31)) &&& (1 : Int32)) m) fun m18 => Fo_value_7 (d + 1) 6 xw (nI (i + 1)) (.int x) w4 m18)) else (bV (Fo_push d 6 x m) fun m19 => Fo_value_7 (d + 1) 6 xw (nI (i + 1)) (.int x) w4 m19)) := by
  obtain ⟨h1, h2⟩ := h.at
  have hT := h.1.2.2.2
  rw [Fo_value_7_e _ _ _ _ _ _ _ kd_6, h.1.2.1, if_neg (by rw [n_le (by omega) (by omega)]; omega), rf_6_0 h.1.1, bR_s, gl_7, al_7, toI, if_neg (by rw [n_le (by omega) (by omega)]; omega), bR_s, ga_7 (by omega), n_cl (by omega), h2, nI_1]
theorem EvC.num {k : Nat} (hk : k < 10000) {H : Nat} (hH : 1 ≤ H) : EvC [nI k] (fun _ => nI k) H := fun d i T t w w3 w4 m hw hd h h3 ht => by
  refine ⟨sI (sI m 8 t (nI k)) 6 3 (nI (t + 1)), .int (nI k), w4, (Fr.rfl'.i (by unfold sFv; simp)).i (by unfold sFv; simp), ?_, gI_w _ _ _ _, ?_⟩
  · rw [Fo_v7 h, if_neg (nI_pos (by omega)), Fo_push_s h.1.1 h3 (by omega), bV_y]
    rfl
  · rw [gI_sI, if_neg (by omega), gI_w]
theorem neg1_sub : ∀ f, f < 6 → (-1 - nI f < 0) ∧ ¬ (-1 - nI f < -6) ∧ -1 - (-1 - nI f) = nI f := by decide +kernel
theorem EvC.fct {f : Nat} (hf : f < 6) {H : Nat} (hH : 1 ≤ H) : EvC [-1 - nI f] (fun w => bb (w.testBit f)) H := fun d i T t w w3 w4 m hw hd h h3 ht => by
  obtain ⟨e1, e2, e3⟩ := neg1_sub f hf
  refine ⟨sI (sI m 8 t (bb (w.testBit f))) 6 3 (nI (t + 1)), .int (-1 - nI f), w4, (Fr.rfl'.i (by unfold sFv; simp)).i (by unfold sFv; simp), ?_, gI_w _ _ _ _, ?_⟩
  · rw [Fo_v7 h, if_pos e1, if_neg e2, e3, bitI (by omega) (by omega), Fo_push_s h.1.1 h3 (by omega), bV_y]
    rfl
  · rw [gI_sI, if_neg (by omega), gI_w]
theorem EvC.not {L : List Int32} {v : Nat → Int32} {H : Nat} (h1 : EvC L v H) (hH : 1 ≤ H) : EvC (L ++ [-10]) (fun w => fNot (v w)) H := fun d i T t w w3 w4 m hw hd h h3 ht => by
  obtain ⟨a1, a2⟩ := h.ap
  obtain ⟨m1, u3, u4, f1, e1, r1, r2⟩ := h1 d i T t w w3 w4 m hw hd a1 h3 ht
  have a2 := a2.fr f1
  have hs1 := a2.1.1
  have hs2 : Sk (sI m1 6 3 (nI t)) := hs1
  have f2 : Fr (sFv t) m1 (sI (sI (sI m1 6 3 (nI t)) 8 t (fNot (v w))) 6 3 (nI (t + 1))) := ((Fr.rfl'.i (by unfold sFv; simp)).i (by unfold sFv; simp)).i (by unfold sFv; simp)
  refine ⟨_, .int (-10), u4, f1.tr f2, ?_, gI_w _ _ _ _, ?_⟩
  · rw [e1, Fo_v7 a2, if_pos (by decide), if_pos (by decide), if_neg (by decide), Fo_pop_s hs1 r1 (by omega), bI_y, r2, List.length_append, List.length_cons, List.length_nil, ← Nat.add_assoc]
    unfold fNot
    by_cases z : v w = 0
    · rw [if_neg (fun q => q z), if_pos z, Fo_push_s hs2 (gI_w _ _ _ _) (by omega), bV_y]
    · rw [if_pos z, if_neg z, Fo_push_s hs2 (gI_w _ _ _ _) (by omega), bV_y]
  · rw [gI_sI, if_neg (by omega), gI_w]
/-- an operator, as the class joins -/
def jnC (o : xOp) : Prop := o.1 < 0 ∧ o.1 < -6 ∧ ¬ o.1 = -10 ∧ ∀ d a b m, Fo_joined d o.1 a b m = yI (o.2.2 a b) m
theorem EvC.bin {L1 L2 : List Int32} {v1 v2 : Nat → Int32} {H : Nat} {o : xOp} (ho : jnC o) (h1 : EvC L1 v1 (H + 1)) (h2 : EvC L2 v2 H) (hH : 1 ≤ H) : EvC (L1 ++ (L2 ++ [o.1])) (fun w => o.2.2 (v1 w) (v2 w)) (H + 1) := fun d i T t w w3 w4 m hw hd h h3 ht => by
  obtain ⟨a1, a2⟩ := h.ap
  obtain ⟨m1, u3, u4, f1, e1, r1, r2⟩ := h1 d i T t w w3 w4 m hw hd a1 h3 ht
  have a2 := a2.fr f1
  obtain ⟨a2, a3⟩ := a2.ap
  obtain ⟨m2, x3, x4, f2, e2, r3, r4⟩ := h2 d (i + L1.length) T (t + 1) w u3 u4 m1 hw hd a2 r1 (by omega)
  have a3 := a3.fr f2
  have hs2 := a3.1.1
  have r5 : gI m2 8 t = v1 w := (f2.1 8 t (sFv_n (by omega) (by omega))).trans r2
  have hs3 : Sk (sI m2 6 3 (nI (t + 1))) := hs2
  have hs4 : Sk (sI (sI m2 6 3 (nI (t + 1))) 6 3 (nI t)) := hs2
  have f3 : Fr (sFv t) m2 (sI (sI (sI (sI m2 6 3 (nI (t + 1))) 6 3 (nI t)) 8 t (o.2.2 (v1 w) (v2 w))) 6 3 (nI (t + 1))) := (((Fr.rfl'.i (by unfold sFv; simp)).i (by unfold sFv; simp)).i (by unfold sFv; simp)).i (by unfold sFv; simp)
  obtain ⟨o1, o2, o3, o4⟩ := ho
  refine ⟨_, .int o.1, .int (v2 w), (f1.tr (f2.fvU (by omega))).tr f3, ?_, gI_w _ _ _ _, ?_⟩
  · rw [e1, e2, Fo_v7 a3, if_pos o1, if_pos o2, if_pos o3, Fo_pop_s hs2 r3 (by omega), bI_y, Fo_pop_s hs3 (gI_w _ _ _ _) (by omega), bI_y, gI_sI, if_neg (by omega), r5, r4, o4, bI_y, Fo_push_s hs4 (gI_w _ _ _ _) (by omega), bV_y, List.length_append, List.length_append, List.length_cons, List.length_nil, show i + L1.length + L2.length + 1 = i + (L1.length + (L2.length + (0 + 1))) by omega]
  · rw [gI_sI, if_neg (by omega), gI_w]
theorem EvC.le {L : List Int32} {v : Nat → Int32} {H H' : Nat} (h : EvC L v H) (hH : H ≤ H') : EvC L v H' := fun d i T t w w3 w4 m hw hd h1 h3 ht => h d i T t w w3 w4 m hw hd h1 h3 (by omega)
theorem jn_ (f : Int32 → Int32 → Int32) (n : Nat) (x : Int32) (h : x < 0 ∧ x < -6 ∧ ¬ x = -10) (h2 : ∀ d a b m, Fo_joined d x a b m = yI (f a b) m) : jnC (x, n, f) := ⟨h.1, h.2.1, h.2.2, h2⟩
theorem opM_j {s : eTp} {b : Nat} {o : xOp} (h : opM s b = some o) : jnC o := by
  unfold opM at h
  split at h
  · cases h
    exact jn_ _ _ _ (by decide) fun d a b m => (Fo_joined_e d (-17) a b m).trans rfl
  · cases h
theorem opA_j {s : eTp} {b : Nat} {o : xOp} (h : opA s b = some o) : jnC o := by
  unfold opA at h
  split at h
  · cases h
    exact jn_ _ _ _ (by decide) fun d a b m => (Fo_joined_e d (-15) a b m).trans rfl
  · split at h
    · cases h
      exact jn_ _ _ _ (by decide) fun d a b m => (Fo_joined_e d (-16) a b m).trans rfl
    · cases h
theorem opC_j {s : eTp} {b : Nat} {o : xOp} (h : opC s b = some o) : jnC o := by
  unfold opC at h
  split at h
  · cases h
    refine jn_ _ _ _ (by decide) fun d a b m => (Fo_joined_e d (-13) a b m).trans ?_
    show (if b ≤ a then yI 0 m else yI 1 m) = yI (if b ≤ a then 0 else 1) m
    rw [yI_ite]
  · split at h
    · cases h
      refine jn_ _ _ _ (by decide) fun d a b m => (Fo_joined_e d (-14) a b m).trans ?_
      show (if ¬ a = b then yI 0 m else yI 1 m) = yI (if a = b then 1 else 0) m
      rw [yI_ite]
      by_cases z : a = b
      · rw [if_neg (fun q => q z), if_pos z]
      · rw [if_pos z, if_neg z]
    · cases h
theorem opL_j {s : eTp} {b : Nat} {o : xOp} (h : opL s b = some o) : jnC o := by
  unfold opL at h
  split at h
  · cases h
    refine jn_ _ _ _ (by decide) fun d a b m => (Fo_joined_e d (-11) a b m).trans ?_
    show (if a = 0 then yI 0 m else (if b = 0 then yI 0 m else yI 1 m)) = yI (if a = 0 then 0 else if b = 0 then 0 else 1) m
    rw [yI_ite, yI_ite]
  · split at h
    · cases h
      refine jn_ _ _ _ (by decide) fun d a b m => (Fo_joined_e d (-12) a b m).trans ?_
      show (if ¬ a = 0 then yI 1 m else (if b = 0 then yI 0 m else yI 1 m)) = yI (if a = 0 then (if b = 0 then 0 else 1) else 1) m
      rw [yI_ite, yI_ite]
      by_cases z : a = 0
      · rw [if_neg (fun q => q z), if_pos z]
      · rw [if_pos z, if_neg z]
    · cases h
def evC (H : Nat) (g : xG) : Prop := EvC g.2.1 g.2.2.2 H
theorem pBn_C {s : eTp} {sub : xP} {op : Nat → Option xOp} {H F : Nat} (hH : 1 ≤ H) (hj : ∀ b o, op b = some o → jnC o) (hs : ∀ b g, sub b = .inr g → evC H g) : ∀ b g, pBn s sub op F b = .inr g → evC (H + 1) g := fun b g hp =>
  pBn_ind hs (fun _ q => EvC.le q (Nat.le_succ H)) (fun b o g h q1 q2 q3 => EvC.bin (hj b o q1) q2 q3 hH) hp
theorem pTs_C {s : eTp} {P : xP} {H : Nat} (hH : 1 ≤ H) (hs : ∀ b g, P b = .inr g → evC H g) : ∀ b g, pTs s P b = .inr g → evC (H + 4) g :=
  pBn_C (by omega) (fun _ _ => opL_j) (pBn_C (by omega) (fun _ _ => opC_j) (pBn_C (by omega) (fun _ _ => opA_j) (pBn_C hH (fun _ _ => opM_j) hs)))
theorem tN_lt {s : eTp} {b : Nat} (ht : ∀ i, i < s.1 → s.2 i < 128) (h : tK s b = 3) : tN s b < 10000 := by
  have hk : tD s b - tB s b ≤ 4 := by
    unfold tK at h
    split at h
    · omega
    · split at h
      · split at h <;> omega
      · split at h
        · split at h
          · assumption
          · omega
        · omega
  have key : ∀ k i f a, (∀ j, i ≤ j → j < i + k → s.2 j - 48 < 10) → a < 10 ^ f → wf 10 48 s k i a < 10 ^ (f + k) := fun k => by
    induction k with
    | zero => exact fun i f a _ ha => ha
    | succ k ih =>
      intro i f a hd ha
      have h1 := hd i (Nat.le_refl _) (by omega)
      have := ih (i + 1) (f + 1) (a * 10 + (s.2 i - 48)) (fun j q1 q2 => hd j (by omega) (by omega)) (by rw [Nat.pow_succ]; omega)
      rw [show f + (k + 1) = f + 1 + k by omega]
      exact this
  have := key (tD s b - tB s b) (tB s b) 0 0 (fun j q1 q2 => by
    have := dig_i.mp (sk_all (s := s) (p := dig s) _ (tB s b) rfl j q1 (by unfold tD at q2; have := sk_le s (dig s) (tB s b); omega)).1
    omega) (by decide)
  rw [Nat.zero_add] at this
  exact Nat.lt_of_lt_of_le this (Nat.pow_le_pow_right (n := 10) (i := tD s b - tB s b) (j := 4) (by decide) hk)
theorem pPt_C {s : eTp} {N : Nat → Nat} {n : Nat} (ht : ∀ i, i < s.1 → s.2 i < 128) (hn : n ≤ 6) : ∀ r b g, pPt s N n r b = .inr g → evC (1 + 4 * r) g
  | 0, b, g, hp => by
    obtain ⟨e, he⟩ := pPt_0 (s := s) (N := N) (n := n) (b := b)
    rw [he] at hp; cases hp
  | r + 1, b, g, hp => by
    rcases pPt_i hp with ⟨f, h1, h2, rfl⟩ | ⟨g', h1, h2, rfl⟩ | ⟨g', h1, h2, h3, rfl⟩ | ⟨h1, rfl⟩
    · exact EvC.fct (Nat.lt_of_lt_of_le (fnd_lt h2) hn) (by omega)
    · exact EvC.le (EvC.not (pPt_C ht hn r _ g' h2) (by omega)) (by omega)
    · have := pTs_C (s := s) (H := 1 + 4 * r) (by omega) (pPt_C ht hn r) _ g' h2
      exact EvC.le this (by omega)
    · exact EvC.num (tN_lt ht h1) (by omega)
theorem pE_C {s : eTp} {N : Nat → Nat} {n b : Nat} {g : xG} (ht : ∀ i, i < s.1 → s.2 i < 128) (hn : n ≤ 6) (h : pE s N n b = .inr g) : EvC g.2.1 g.2.2.2 25 := pTs_C (s := s) (by decide) (pPt_C ht hn 5) b g h
/-- the worlds in which it isn't 0 -/
def woN (n : Nat) (v : Nat → Int32) : Int64 := mk fun w => decide (w < 2 ^ n) && !decide (v w = 0)
def sFw (a j : Nat) : Bool := (a == 6 && j == 3) || a == 8
theorem Fr.fvW {t : Nat} {m m' : eM} (f : Fr (sFv t) m m') : Fr sFw m m' := f.up fun a j q => by
  unfold sFw at q
  rw [Bool.or_eq_false_iff] at q
  refine sFv_n ?_ ?_
  · by_cases z : a = 6
    · subst z; right; intro z; subst z; simp at q
    · exact Or.inl z
  · left; intro z; subst z; simp at q
theorem Fo_value_s {L : List Int32} {v : Nat → Int32} {H : Nat} (h : EvC L v H) (hH : H ≤ 64) {D : Nat} (hD : 2 ≤ D) {w : Nat} (hw : w < 64) {m : eM} (hA : StA L 0 L.length m) : ∃ m', Fr sFw m m' ∧ Fo_value D 6 (nI w) m = yI (v w) m' := by
  obtain ⟨d, rfl⟩ : ∃ d, D = d + 1 := ⟨D - 1, by omega⟩
  have f0 : Fr (sFv 0) m (sI m 6 3 (nI 0)) := Fr.rfl'.i rfl
  obtain ⟨m1, u3, u4, f1, e1, r1, r2⟩ := h d 0 L.length 0 w eU eU _ hw (by omega) (hA.fr f0) (gI_w _ _ _ _) (by omega)
  have a1 := (hA.fr f0).fr f1
  rw [Nat.zero_add] at e1
  refine ⟨sI m1 6 3 (nI 0), (f0.tr f1).fvW.i rfl, ?_⟩
  have e1 : Fo_value_7 (d + 1) 6 (nI w) 0 eU eU (sI m 6 3 0) = _ := e1
  rw [Fo_value_e _ _ _ _ kd_6, mI_u, e1, Fo_value_7_e _ _ _ _ _ _ _ kd_6, a1.1.2.1, if_pos (by rw [n_le (by have := a1.1.2.2.2; omega) (by have := a1.1.2.2.2; omega)]; exact Nat.le_refl _), Fo_pop_s a1.1.1 r1 (by decide), bI_y, r2]
theorem StA.fw {L : List Int32} {i T : Nat} {m m' : eM} (h : StA L i T m) (f : Fr sFw m m') : StA L i T m' := ⟨⟨f.sk h.1.1, (f.1 _ _ rfl).trans h.1.2.1, h.1.2.2⟩, fun k hk => (f.1 _ _ rfl).trans (h.2 k hk)⟩
theorem Fo_wso_s {L : List Int32} {v : Nat → Int32} {H : Nat} (h : EvC L v H) (hH : H ≤ 64) (d : Nat) (hd : 2 ≤ d) {n : Nat} (hn : n ≤ 6) : ∀ j w m, w + j = 2 ^ n → StA L 0 L.length m → ∃ m', Fr sFw m m' ∧ Fo_worldsSo_5 (d + 1) 6 (nI n) (mk fun u => decide (u < w) && !decide (v u = 0)) (nI w) m = yL (woN n v) m'
  | 0, w, m, e, hA => by
    have hW : 2 ^ n ≤ 64 := Nat.pow_le_pow_right (n := 2) (by decide) hn
    refine ⟨m, Fr.rfl', ?_⟩
    rw [Fo_worldsSo_5_e _ _ _ _ _ _ kd_6, shl1 n (by omega), if_pos (by rw [n_le (by omega) (by omega)]; omega), show w = 2 ^ n by omega]
    rfl
  | j + 1, w, m, e, hA => by
    have hW : 2 ^ n ≤ 64 := Nat.pow_le_pow_right (n := 2) (by decide) hn
    obtain ⟨m1, f1, e1⟩ := Fo_value_s h hH hd (show w < 64 by omega) hA
    obtain ⟨m2, f2, e2⟩ := Fo_wso_s h hH d hd hn j (w + 1) m1 (by omega) (hA.fw f1)
    refine ⟨m2, f1.tr f2, ?_⟩
    rw [← e2, Fo_worldsSo_5_e _ _ _ _ _ _ kd_6, shl1 n (by omega), if_neg (by rw [n_le (by omega) (by omega)]; omega), e1, bI_y, nI_1]
    by_cases z : v w = 0
    · rw [if_pos z]
      congr 1
      refine mk_c fun u _ => ?_
      by_cases y : u = w
      · rw [y, decide_eq_true z, Bool.not_true, Bool.and_false, Bool.and_false]
      · rw [show decide (u < w + 1) = decide (u < w) from decide_eq_decide.mpr (by omega)]
    · rw [if_neg z, lL_u, mk_put _ (by omega)]
      congr 1
      refine mk_c fun u _ => ?_
      by_cases y : u = w
      · rw [y, decide_eq_false z, decide_eq_true (show w < w + 1 by omega)]; simp
      · rw [show decide (u < w + 1) = decide (u < w) from decide_eq_decide.mpr (by omega), decide_eq_false y, Bool.or_false]
theorem Fo_worldsSo_s {L : List Int32} {v : Nat → Int32} {H : Nat} (h : EvC L v H) (hH : H ≤ 64) {D : Nat} (hD : 3 ≤ D) {n : Nat} (hn : n ≤ 6) {m : eM} (hA : StA L 0 L.length m) : ∃ m', Fr sFw m m' ∧ Fo_worldsSo D 6 (nI n) m = yL (woN n v) m' := by
  obtain ⟨d, rfl⟩ : ∃ d, D = d + 1 := ⟨D - 1, by omega⟩
  obtain ⟨m', f, e⟩ := Fo_wso_s h hH d (by omega) hn (2 ^ n) 0 m (by omega) hA
  refine ⟨m', f, ?_⟩
  rw [Fo_worldsSo_e _ _ _ _ kd_6, ← e]
  congr 1
  exact mk_0.symm.trans (mk_c fun u _ => by simp)
