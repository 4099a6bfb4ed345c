/-! ===== LOOKOUT: the class' search ===== -/
/-- the looks picked from level l on tell it within the worlds Y -/
def tgP (v : eV) (c f n : Nat) (S P : Nat → Nat) (l : Nat) (Y : Int64) : Prop := ∀ a b, a < 64 → b < 64 → tb Y a = true → tb Y b = true → a.testBit f = true → ¬ b.testBit f = true → ∃ k, l ≤ k ∧ k < n ∧ fir v (pt0 v c (S (P k)) a) ≠ fir v (pt0 v c (S (P k)) b)
theorem tgP_0 {v : eV} (hv : Va v) {c f n : Nat} {S P : Nat → Nat} : tgP v c f n S P 0 (canV v) ↔ tlP v c f n S P := by
  have hP := hv.p
  have e : ∀ k a b, fir v (pt0 v c (S (P k)) a) ≠ fir v (pt0 v c (S (P k)) b) ↔ beN v (pt0 v c (S (P k)) a) ≠ beN v (pt0 v c (S (P k)) b) := fun k a b => by
    have h1 := pt0_le hv (c := c) (mn := S (P k)) (w := a)
    have h2 := pt0_le hv (c := c) (mn := S (P k)) (w := b)
    have h3 := fir_e h1 h2 hP
    rw [peB_be hv h1, peB_be hv h2] at h3
    exact not_congr h3
  constructor
  · intro h a b ha hb fa fb
    have hW := W_64 hv
    have h1 := canV_lt hv ha
    have h2 := canV_lt hv hb
    obtain ⟨k, -, k2, k3⟩ := h a b (by omega) (by omega) ha hb fa fb
    exact ⟨k, k2, (e k a b).mp k3⟩
  · intro h a b _ _ ha hb fa fb
    obtain ⟨k, k2, k3⟩ := h a b ha hb fa fb
    exact ⟨k, Nat.zero_le _, k2, (e k a b).mpr k3⟩
/-- the picks that the class holds -/
def PkC (N n : Nat) (P : Nat → Nat) (m : eM) : Prop := ∀ k, k < n → P k < N ∧ gI m 65 k = nI (P k)
theorem PkC.fr {N n : Nat} {P : Nat → Nat} {m m' : eM} {T : Nat → Nat → Bool} (h : PkC N n P m) (f : Fr T m m') (h1 : ∀ j, j < n → T 65 j = false) : PkC N n P m' := fun k hk => ⟨(h k hk).1, (f.1 _ _ (h1 k hk)).trans (h k hk).2⟩
theorem PkC.up {N k i : Nat} {P : Nat → Nat} {m : eM} (h : PkC N k P m) (hi : i < N) : PkC N (k + 1) (upF P k i) (sI m 65 k (nI i)) := fun x hx => by
  unfold upF
  rw [gI_sI]
  by_cases y : x = k
  · rw [if_pos y, if_pos ⟨rfl, y⟩]; exact ⟨hi, rfl⟩
  · rw [if_neg y, if_neg (fun q => y q.2)]; exact h x (by omega)
theorem Se_groupAt_s {m : eM} (hs : Sk m) (d : Nat) {u : Nat} (hu : u < 168) : Se_groupAt d 61 (nI u) m = yL (gL m 63 u) m := by
  rw [Se_groupAt_e _ _ _ _ kd_61, if_neg (nI_pos (by omega)), rf_61_1 hs, bR_s, gl_63, al_63, toI, if_neg (by rw [n_le (by omega) (by omega)]; omega), bR_s, ga_63 (by omega), n_cl (by omega)]
theorem Se_tell_33_s {v : eV} (hv : Va v) (d : Nat) {c f n N : Nat} {S P : Nat → Nat} {m : eM} (hs : Sk m) (hT : SeP v c N S m) (hn : n < 4) (hP : PkC N n P m) {l : Nat} (hl : l < n) (Y : Int64) (hY : ∀ w, w < 64 → tb Y w = true → tb (canV v) w = true) (ih : ∀ Y, (∀ w, w < 64 → tb Y w = true → tb (canV v) w = true) → Se_tell d 61 (nI (l + 1)) (nI n) Y m = yI (bb (dcd (tgP v c f n S P (l + 1) Y))) m) : ∀ j q, q + j = 7 → (∀ q', q' < q → tgP v c f n S P (l + 1) (Y &&& gL m 63 (P l * 7 + q'))) → Se_tell_33 (d + 1) 61 (nI l) (nI n) Y (nI q) m = yI (bb (dcd (tgP v c f n S P l Y))) m
  | 0, q, e, h => by
    have p1 := (hP l hl).1
    have : tgP v c f n S P l Y := fun a b ha hb ya yb fa fb => by
      by_cases z : fir v (pt0 v c (S (P l)) a) = fir v (pt0 v c (S (P l)) b)
      · have h6 : fir v (pt0 v c (S (P l)) a) < 7 := by
          have h1 := fir_le v (pt0 v c (S (P l)) a)
          have h2 := pt0_7 hv c (S (P l)) a
          omega
        have eg := hT.2.2.2.2 (P l) p1 _ h6
        obtain ⟨k, k1, k2, k3⟩ := h _ (show fir v (pt0 v c (S (P l)) a) < q by omega) a b ha hb (by rw [t_and, ya, eg, t_mk _ ha, hY a ha ya, decide_eq_true rfl]; rfl) (by rw [t_and, yb, eg, t_mk _ hb, hY b hb yb, decide_eq_true z.symm]; rfl) fa fb
        exact ⟨k, by omega, k2, k3⟩
      · exact ⟨l, Nat.le_refl _, hl, z⟩
    rw [Se_tell_33_e _ _ _ _ _ _ _ kd_61, l_7, if_pos (by rw [n_le (by omega) (by omega)]; omega), (dcd_i _).mpr this]
    rfl
  | j + 1, q, e, h => by
    have hN := hT.2.1
    have p1 := (hP l hl).1
    have p2 := (hP l hl).2
    have eg := hT.2.2.2.2 (P l) p1 q (by omega)
    have hsub : ∀ w, w < 64 → tb (Y &&& gL m 63 (P l * 7 + q)) w = true → tb (canV v) w = true := fun w hw y => by
      rw [t_and, Bool.and_eq_true] at y
      exact hY w hw y.1
    rw [Se_tell_33_e _ _ _ _ _ _ _ kd_61, l_7, if_neg (by rw [n_le (by omega) (by omega)]; omega), rf_61_3 hs, bR_s, ga_65 (by omega), n_cl (by omega), p2, nI_mul, nI_add, Se_groupAt_s hs _ (by omega), bL_y, nI_1, ih _ hsub, br1]
    by_cases z : tgP v c f n S P (l + 1) (Y &&& gL m 63 (P l * 7 + q))
    · rw [if_pos ((dcd_i _).mpr z), nI_1]
      exact Se_tell_33_s hv d hs hT hn hP hl Y hY ih j (q + 1) (by omega) fun q' hq' => by
        by_cases y : q' = q
        · rw [y]; exact z
        · exact h q' (by omega)
    · rw [if_neg (fun x => z ((dcd_i _).mp x))]
      have : ¬ tgP v c f n S P l Y := fun x => z fun a b ha hb ya yb fa fb => by
        rw [t_and, eg, t_mk _ ha, Bool.and_eq_true, Bool.and_eq_true, decide_eq_true_iff] at ya
        rw [t_and, eg, t_mk _ hb, Bool.and_eq_true, Bool.and_eq_true, decide_eq_true_iff] at yb
        obtain ⟨k, k1, k2, k3⟩ := x a b ha hb ya.1 yb.1 fa fb
        refine ⟨k, ?_, k2, k3⟩
        by_cases y : k = l
        · subst y; exact absurd (ya.2.2.trans yb.2.2.symm) k3
        · omega
      rw [(dcd_f _).mpr this]
      rfl
theorem Se_tell_s {v : eV} (hv : Va v) {c f n N : Nat} {S P : Nat → Nat} {m : eM} (hs : Sk m) (hT : SeP v c N S m) (hn : n < 4) (hP : PkC N n P m) (hF : gL m 61 6 = mk fun w => w.testBit f) : ∀ r l d Y, l + r = n → r < d → (∀ w, w < 64 → tb Y w = true → tb (canV v) w = true) → Se_tell d 61 (nI l) (nI n) Y m = yI (bb (dcd (tgP v c f n S P l Y))) m := fun r => by
  induction r with
  | zero =>
    intro l d Y e hd hY
    obtain ⟨d, rfl⟩ : ∃ x, d = x + 1 := ⟨d - 1, by omega⟩
    rw [Se_tell_e _ _ _ _ _ _ kd_61, hF, LC_sureness_s, bI_y]
    by_cases z : surN Y (mk fun w => w.testBit f) = 2
    · rw [if_pos z, if_pos (by rw [n_le (by omega) (by omega)]; omega)]
      have : ¬ tgP v c f n S P l Y := fun x => by
        obtain ⟨⟨a, ha, a1, a2⟩, b, hb, b1, b2⟩ := (surN_2 _ _).mp z
        rw [t_mk _ ha] at a2
        rw [t_mk _ hb] at b2
        obtain ⟨k, k1, k2, -⟩ := x a b ha hb a1 b1 a2 b2
        omega
      rw [(dcd_f _).mpr this]
      rfl
    · rw [if_neg z]
      have : tgP v c f n S P l Y := fun a b ha hb a1 b1 a2 b2 => absurd ((surN_2 _ _).mpr ⟨⟨a, ha, a1, by rw [t_mk _ ha]; exact a2⟩, b, hb, b1, by rw [t_mk _ hb]; exact b2⟩) z
      rw [(dcd_i _).mpr this]
      rfl
  | succ r ih =>
    intro l d Y e hd hY
    obtain ⟨d, rfl⟩ : ∃ x, d = x + 1 := ⟨d - 1, by omega⟩
    rw [Se_tell_e _ _ _ _ _ _ kd_61, hF, LC_sureness_s, bI_y]
    by_cases z : surN Y (mk fun w => w.testBit f) = 2
    · rw [if_pos z, if_neg (by rw [n_le (by omega) (by omega)]; omega), rf_61_3 hs, bR_s, gl_65, al_65, toI, if_pos (by rw [n_lt (by omega) (by omega)]; omega)]
      exact Se_tell_33_s hv d hs hT hn hP (show l < n by omega) Y hY (fun Y hY => ih (l + 1) d Y (by omega) (by omega) hY) 7 0 rfl fun q' hq' => absurd hq' (Nat.not_lt_zero _)
    · rw [if_neg z]
      have : tgP v c f n S P l Y := fun a b ha hb a1 b1 a2 b2 => absurd ((surN_2 _ _).mpr ⟨⟨a, ha, a1, by rw [t_mk _ ha]; exact a2⟩, b, hb, b1, by rw [t_mk _ hb]; exact b2⟩) z
      rw [(dcd_i _).mpr this]
      rfl
/-- what the class' search below a level may write -/
def sPc (k a j : Nat) : Bool := a == 65 && decide (k ≤ j)
theorem sPc_K {k : Nat} {m m' : eM} (f : Fr (sPc k) m m') : Fr sSe m m' := f.up fun a j h => by
  unfold sPc
  by_cases h1 : a = 65
  · subst h1; cases h
  · simp [h1]
theorem sPc_l {k j : Nat} (h : j < k) : sPc k 65 j = false := by
  unfold sPc
  rw [decide_eq_false (by omega), Bool.and_false]
theorem sPc_n {k a j : Nat} (h : a ≠ 65) : sPc k a j = false := by
  unfold sPc; simp [h]
theorem sPc_u {k : Nat} (a j : Nat) (h : sPc k a j = false) : sPc (k + 1) a j = false := by
  unfold sPc at h ⊢
  by_cases h1 : a = 65
  · subst h1
    have h2 : decide (k ≤ j) = false := h
    rw [decide_eq_false_iff_not] at h2
    rw [decide_eq_false (by omega), Bool.and_false]
  · simp [h1]
theorem SeP.pc {v : eV} {c N : Nat} {S : Nat → Nat} {m m' : eM} {k : Nat} (h : SeP v c N S m) (f : Fr (sPc k) m m') : SeP v c N S m' := h.fr f (sPc_n (by decide)) (sPc_n (by decide)) (fun _ => sPc_n (by decide)) (fun _ => sPc_n (by decide))
theorem Se_pick_28_s {c f N : Nat} {v : eV} {S : Nat → Nat} {n : Nat} (hn : n < 4) (d : Nat) (x2 : Int32) {k : Nat} (hk : k < n) {P : Nat → Nat} (F : Nat → Option (Nat → Nat)) (hF : ∀ i m, i < N → Sk m → SeP v c N S m → gL m 61 6 = (mk fun w => w.testBit f) → PkC N (k + 1) (upF P k i) m → ∃ m', Fr (sPc (k + 1)) m m' ∧ Se_pick d 61 (nI (k + 1)) (nI (i + 1)) (nI n) m = yI (bb (F i).isSome) m' ∧ ∀ P', F i = some P' → PkC N n P' m') : ∀ j i m, i + j = N → Sk m → SeP v c N S m → gL m 61 6 = (mk fun w => w.testBit f) → PkC N k P m → ∃ m', Fr (sPc k) m m' ∧ Se_pick_28 (d + 1) 61 (nI k) x2 (nI n) (nI i) m = yI (bb (lpO F j i).isSome) m' ∧ ∀ P', lpO F j i = some P' → PkC N n P' m'
  | 0, i, m, e, hs, hT, h6, hP => by
    have hN := hT.2.1
    refine ⟨m, Fr.rfl', ?_, fun P' q => by cases q⟩
    rw [Se_pick_28_e _ _ _ _ _ _ _ kd_61, hT.1, if_pos (by rw [n_le (by omega) (by omega)]; omega)]
    rfl
  | j + 1, i, m, e, hs, hT, h6, hP => by
    have hN := hT.2.1
    have f1 : Fr (sPc k) m (sI m 65 k (nI i)) := Fr.rfl'.i (by unfold sPc; simp)
    obtain ⟨m2, f2, e2, h2⟩ := hF i _ (by omega) (f1.sk hs) (hT.pc f1) h6 (hP.up (by omega))
    have f12 := f1.tr (f2.up sPc_u)
    rw [Se_pick_28_e _ _ _ _ _ _ _ kd_61, hT.1, if_neg (by rw [n_le (by omega) (by omega)]; omega), rf_61_3 hs, bR_s, gw_65 (by omega), mI_u, n_cl (by omega), nI_1, nI_1, e2, br0]
    cases z : F i with
    | some P' =>
      rw [if_pos (show (some P').isSome = true from rfl), lpO_y z]
      refine ⟨m2, f12, rfl, fun P'' q => ?_⟩
      cases q
      exact h2 P' z
    | none =>
      rw [if_neg (by intro q; cases q), lpO_n z]
      obtain ⟨m3, f3, e3, h3⟩ := Se_pick_28_s hn d x2 hk F hF j (i + 1) m2 (by omega) (f12.sk hs) (hT.pc f12) ((f12.2.1 61 6 (sPc_n (by decide))).trans h6) (hP.fr f12 fun x hx => sPc_l hx)
      exact ⟨m3, f12.tr f3, e3, h3⟩
theorem Se_pick_s {v : eV} (hv : Va v) {c f N : Nat} {S : Nat → Nat} {n : Nat} (hn : n < 4) : ∀ r k d t P m, k + r = n → r + n + 1 < d → t ≤ N → Sk m → SeP v c N S m → gL m 61 6 = (mk fun w => w.testBit f) → PkC N k P m → ∃ m', Fr (sPc k) m m' ∧ Se_pick d 61 (nI k) (nI t) (nI n) m = yI (bb (srO (fun P => dcd (tlP v c f n S P)) N r k t P).isSome) m' ∧ ∀ P', srO (fun P => dcd (tlP v c f n S P)) N r k t P = some P' → PkC N n P' m'
  | 0, k, d, t, P, m, e, hd, ht, hs, hT, h6, hP => by
    obtain ⟨d, rfl⟩ : ∃ x, d = x + 2 := ⟨d - 2, by omega⟩
    have hkn : k = n := by omega
    subst hkn
    have e1 : dcd (tgP v c f k S P 0 (canV v)) = dcd (tlP v c f k S P) := by rw [propext (tgP_0 hv)]
    refine ⟨m, Fr.rfl', ?_, fun P' q => ?_⟩
    · have := Se_tell_s hv hs hT hn hP h6 k 0 (d + 1) (canV v) (Nat.zero_add _) (by omega) fun _ _ z => z
      have this : Se_tell (d + 1) 61 0 (nI k) (canV v) m = yI (bb (dcd (tgP v c f k S P 0 (canV v)))) m := this
      rw [Se_pick_e _ _ _ _ _ _ kd_61, if_pos (by rw [n_le (by omega) (by omega)]; omega), hT.2.2.1, this, bI_y, yB_bb, srO_i, e1]
    · rw [srO_0] at q
      by_cases z : dcd (tlP v c f k S P) = true
      · rw [if_pos z] at q
        cases q
        exact hP
      · rw [if_neg z] at q; cases q
  | r + 1, k, d, t, P, m, e, hd, ht, hs, hT, h6, hP => by
    obtain ⟨d, rfl⟩ : ∃ x, d = x + 1 := ⟨d - 1, by omega⟩
    have hN := hT.2.1
    rw [srO_s]
    obtain ⟨m', f1, e1, h1⟩ := Se_pick_28_s (v := v) hn d (nI t) (show k < n by omega) (P := P) (fun i => srO (fun P => dcd (tlP v c f n S P)) N r (k + 1) (i + 1) (upF P k i)) (fun i m hi hs hT h6 hP => Se_pick_s hv hn r (k + 1) d (i + 1) (upF P k i) m (by omega) (by omega) (by omega) hs hT h6 hP) (N - t) t m (by omega) hs hT h6 hP
    refine ⟨m', f1, ?_, h1⟩
    rw [Se_pick_e _ _ _ _ _ _ kd_61, if_neg (by rw [n_le (by omega) (by omega)]; omega), rf_61_3 hs, bR_s, gl_65, al_65, toI, if_pos (by rw [n_lt (by omega) (by omega)]; omega)]
    exact e1
/-- how many looks -/
def fmR (o : Option (Nat × (Nat → Nat))) : Int32 := match o with
  | none => -1
  | some (n, _) => nI n
theorem Se_fewestMinutes_7_s {v : eV} (hv : Va v) {c f : Nat} (y1 : Int64) (d : Nat) : ∀ j n m, n + j = 4 → Sk m → SeP v c (tl v c (nS v)).1 (tl v c (nS v)).2 m → gL m 61 6 = (mk fun w => w.testBit f) → ∃ m', Fr (sPc 0) m m' ∧ Se_fewestMinutes_7 (d + 9) 61 y1 (nI n) m = yI (fmR (fmO v c f j n)) m' ∧ ∀ n' P', fmO v c f j n = some (n', P') → n' < 4 ∧ PkC (tl v c (nS v)).1 n' P' m'
  | 0, n, m, e, hs, hT, h6 => by
    refine ⟨m, Fr.rfl', ?_, fun _ _ q => by cases q⟩
    rw [Se_fewestMinutes_7_e _ _ _ _ _ kd_61, l_3, if_pos (by rw [n_lt (by omega) (by omega)]; omega)]
    rfl
  | j + 1, n, m, e, hs, hT, h6 => by
    obtain ⟨m1, f1, e1, h1⟩ := Se_pick_s hv (show n < 4 by omega) n 0 (d + 8) 0 (fun _ => 0) m (by omega) (by omega) (Nat.zero_le _) hs hT h6 (fun k hk => absurd hk (Nat.not_lt_zero _))
    have e1 : Se_pick (d + 8) 61 0 0 (nI n) m = yI (bb (lkO v c f n).isSome) m1 := e1
    have h1 : ∀ P', lkO v c f n = some P' → PkC (tl v c (nS v)).1 n P' m1 := h1
    rw [Se_fewestMinutes_7_e _ _ _ _ _ kd_61, l_3, if_neg (by rw [n_lt (by omega) (by omega)]; omega), e1, br0, nI_1]
    cases z : lkO v c f n with
    | some P' =>
      rw [fmO_y z, if_pos (show (some P').isSome = true from rfl)]
      refine ⟨m1, f1, rfl, fun n' P'' q => ?_⟩
      cases q
      exact ⟨by omega, h1 P' z⟩
    | none =>
      rw [fmO_n z, if_neg (by intro q; cases q)]
      obtain ⟨m2, f2, e2, h2⟩ := Se_fewestMinutes_7_s hv y1 d j (n + 1) m1 (by omega) (f1.sk hs) (hT.pc f1) ((f1.2.1 61 6 (sPc_n (by decide))).trans h6)
      exact ⟨m2, f1.tr f2, e2, h2⟩
theorem LC_lookout_s {v : eV} (hv : Va v) {p : Nat} {m : eM} (h : Cn v p m) {D : Nat} (hD : 11 ≤ D) (c f w : Int32) : ∃ m', Fr sK m m' ∧ LC_lookout D 3 c f w m = yI (sp_lookout v c f w) m' := by
  obtain ⟨d, rfl⟩ : ∃ d, D = d + 11 := ⟨D - 11, by omega⟩
  have hF := hv.f
  have hs := h.sk
  obtain ⟨m1, f1, e1⟩ := LC_possible_s hv h (show 4 ≤ d + 10 by omega)
  have h1 := h.q (sA_K f1)
  have hs1 := h1.sk
  rw [LC_lookout_e _ _ _ _ _ _ kd_3, e1, bL_y, rf_3_2 hs1, bR_s, gd9, h1.r0, bR_s, h1.gp, Pa_isThere_s hv h1.p (by omega), br0, rf_3_2 hs1, bR_s, gd9, h1.r0, bR_s, h1.gp, Pa_isFact_s h1.p, br0]
  unfold sp_lookout
  by_cases z1 : thr v c = true
  · rw [if_pos z1, if_pos z1]
    by_cases z2 : inN f (nF v) = true
    · rw [if_pos z2, if_pos z2]
      by_cases z3 : inN w 4 = true
      · rw [if_pos z3]
        obtain ⟨f', hf', rfl⟩ := inN_of (by omega) z2
        obtain ⟨w', hw', rfl⟩ := inN_of (by omega) z3
        obtain ⟨c', hc', rfl, -⟩ := thr_of z1
        rw [n_cl (by omega), n_cl (by omega), if_neg (nI_pos (by omega)), l_3, if_neg (by rw [n_lt (by omega) (by omega)]; omega)]
        by_cases z4 : canV v = 0
        · rw [if_neg (fun q => q ((cmp0 _ _).mpr z4)), if_pos z4]
          exact ⟨m1, sA_K f1, rfl⟩
        · rw [if_pos (fun q => z4 ((cmp0 _ _).mp q)), if_neg z4, rf_3_9 hs1, bR_s, rf_3_5 hs1, bR_s, rf_3_2 hs1, bR_s, gd61]
          obtain ⟨m2, f2, e2, h2⟩ := Se_ask_s hv h1 (show 3 ≤ d + 10 by omega) hc'
          have hm2 := h1.q (sSe_K f2)
          have hs2 := hm2.sk
          rw [e2, bV_y, rf_3_9 hs2, bR_s, LC_factSo_s hm2.ss _ (by omega), bL_y, gd61, Se_fewestMinutes_e _ _ _ _ kd_61, mJ_u]
          have f3 : Fr sSe m2 (sL m2 61 6 (mk fun w => w.testBit f')) := Fr.rfl'.l rfl
          obtain ⟨m4, f4, e4, h4⟩ := Se_fewestMinutes_7_s (f := f') hv (mk fun w => w.testBit f') (d + 1) 4 0 _ rfl (f3.sk hs2) (h2.fr (T := fun a j => a == 61 && j == 6) (Fr.rfl'.l rfl) rfl rfl (fun _ => rfl) (fun _ => rfl)) (gL_w _ _ _ _)
          have f24 : Fr sK m m4 := (sA_K f1).tr (sSe_K ((f2.tr f3).tr (sPc_K f4)))
          have f3' : Fr (fun a j => a == 61 && j == 6) m2 (sL m2 61 6 (mk fun w => w.testBit f')) := Fr.rfl'.l rfl
          have hT4 : SeP v c' (tl v c' (nS v)).1 (tl v c' (nS v)).2 m4 := (h2.fr f3' rfl rfl (fun _ => rfl) (fun _ => rfl)).pc f4
          have e4 : Se_fewestMinutes_7 (d + 10) 61 (mk fun w => w.testBit f') 0 (sL m2 61 6 (mk fun w => w.testBit f')) = yI (fmR (fmO v c' f' 4 0)) m4 := e4
          have hs4 := (f4.sk (f3.sk hs2))
          rw [e4, bI_y]
          refine ⟨m4, f24, ?_⟩
          cases z : fmO v c' f' 4 0 with
          | none =>
            show (if nI w' = 0 then yI (-1) m4 else if ¬ (-1 : Int32) = -1 then _ else yI (-1) m4) = yI (-1) m4
            by_cases y : nI w' = 0
            · rw [if_pos y]
            · rw [if_neg y, if_neg (fun q => q rfl)]
          | some x =>
            obtain ⟨n, P⟩ := x
            obtain ⟨hn4, hPk⟩ := h4 n P z
            rw [show fmR (some (n, P)) = nI n from rfl]
            show (if nI w' = 0 then yI (nI n) m4 else if ¬ nI n = -1 then _ else yI (nI n) m4) = yI (if nI w' = 0 then nI n else if (nI w').toNatClampNeg ≤ n then nI ((tl v c' (nS v)).2 (P ((nI w').toNatClampNeg - 1))) else -1) m4
            by_cases y : nI w' = 0
            · rw [if_pos y, if_pos y]
            · have y' : ¬ w' = 0 := fun q => y (by rw [q]; rfl)
              rw [if_neg y, if_neg y, if_pos (nI_nm1 (by omega)), n_cl (by omega)]
              by_cases x : w' ≤ n
              · have p1 := (hPk (w' - 1) (by omega)).1
                have p2 := (hPk (w' - 1) (by omega)).2
                have hN := hT4.2.1
                rw [if_neg (by rw [n_lt (by omega) (by omega)]; omega), if_pos x, rf_3_9 hs4, bR_s, gd61, n_s1 (by omega), Se_minute_e _ _ _ _ kd_61, if_neg (nI_pos (by omega)), rf_61_3 hs4, bR_s, gl_65, al_65, toI, if_neg (by rw [n_le (by omega) (by omega)]; omega), bR_s, ga_65 (by omega), n_cl (by omega), p2, Se_minute_23_e _ _ _ _ _ kd_61, if_neg (nI_pos (by omega)), rf_61_0 hs4, bR_s, gl_62, al_62, toI, if_neg (by rw [n_le (by omega) (by omega)]; omega), bR_s, ga_62 (by omega), n_cl (by omega), hT4.2.2.2.1 _ p1, bI_y]
              · rw [if_pos (by rw [n_lt (by omega) (by omega)]; omega), if_neg x]
      · rw [if_neg z3]
        refine ⟨m1, sA_K f1, ?_⟩
        have z3 : inN w 4 = false := Bool.eq_false_iff.mpr z3
        by_cases y : w < 0
        · rw [if_pos y]
        · rw [if_neg y, if_pos]
          rw [l_3, lt_succ (by omega)]
          exact (inN_no z3).resolve_left y
    · rw [if_neg z2, if_neg z2]
      exact ⟨m1, sA_K f1, rfl⟩
  · rw [if_neg z1, if_neg z1]
    exact ⟨m1, sA_K f1, rfl⟩
