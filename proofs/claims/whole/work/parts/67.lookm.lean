/-! ===== LOOKOUT: the reference's search ===== -/
/-- some of the first n looks picked parts a from b -/
def pkD (v : eV) (c n : Nat) (S P : Nat → Nat) (a b : Nat) : Prop := ∃ k, k < n ∧ beN v (pt0 v c (S (P k)) a) ≠ beN v (pt0 v c (S (P k)) b)
theorem pkD_sym {v : eV} {c n : Nat} {S P : Nat → Nat} {a b : Nat} (h : pkD v c n S P a b) : pkD v c n S P b a := by
  obtain ⟨k, h1, h2⟩ := h
  exact ⟨k, h1, fun q => h2 q.symm⟩
def okp (v : eV) (c f n : Nat) (S P : Nat → Nat) (a b : Nat) : Prop := tb (canV v) a = true → tb (canV v) b = true → ¬ a.testBit f = b.testBit f → pkD v c n S P a b
theorem tlP_i {v : eV} {c f n : Nat} {S P : Nat → Nat} : tlP v c f n S P ↔ ∀ a b, b < a → okp v c f n S P a b := by
  constructor
  · intro h a b hb ha1 hb1 hne
    by_cases z : a.testBit f = true
    · exact h a b ha1 hb1 z fun q => hne (z.trans q.symm)
    · refine pkD_sym (h b a hb1 ha1 ?_ z)
      cases y : b.testBit f
      · exact absurd ((Bool.eq_false_iff.mpr z).trans y.symm) hne
      · rfl
  · intro h a b ha hb fa fb
    have hne : ¬ a.testBit f = b.testBit f := fun q => fb (q.symm.trans fa)
    by_cases z : b < a
    · exact h a b z ha hb hne
    · by_cases y : a < b
      · exact pkD_sym (h b a y hb ha fun q => hne q.symm)
      · have : a = b := by omega
        subst this
        exact absurd rfl hne
/-- the picks that the reference holds -/
def PkM (N n : Nat) (P : Nat → Nat) (m : eM) : Prop := ∀ k, k < n → P k < N ∧ gI m 254 k = nI (P k)
theorem PkM.fr {N n : Nat} {P : Nat → Nat} {m m' : eM} {T : Nat → Nat → Bool} (h : PkM N n P m) (f : Fr T m m') (h1 : ∀ j, j < n → T 254 j = false) : PkM N n P m' := fun k hk => ⟨(h k hk).1, (f.1 _ _ (h1 k hk)).trans (h k hk).2⟩
theorem Mo_tells_65_0 (d : Nat) (x2 : Int32) (X : Int64) {a b n : Nat} (hn : n < 4) (m : eM) : ∀ j k, k + j = n → Mo_tells_65 (d + 1) 208 (nI n) x2 X (nI a) (nI b) 0 (nI k) m = Mo_tells_19 (d + 1) 208 (nI n) x2 X (nI a) (nI (b + 1)) (.int 0) (.int (nI n)) m
  | 0, k, e => by
    rw [Mo_tells_65_e _ _ _ _ _ _ _ _ _ _ kd_208, if_pos (by rw [n_le (by omega) (by omega)]; omega), if_pos rfl, nI_1, show k = n by omega]
  | j + 1, k, e => by
    rw [Mo_tells_65_e _ _ _ _ _ _ _ _ _ _ kd_208, if_neg (by rw [n_le (by omega) (by omega)]; omega), if_pos rfl, nI_1]
    exact Mo_tells_65_0 d x2 X hn m j (k + 1) (by omega)
theorem Mo_tells_65_s {v : eV} (hv : Va v) (d : Nat) (x2 : Int32) (X : Int64) {c N : Nat} {S P : Nat → Nat} {m : eM} (hs : Sk m) (hT : ToP v c N S m) {a b n : Nat} (hn : n < 4) (hP : PkM N n P m) (ha : a < 2 ^ nF v) (hb : b < 2 ^ nF v) : ∀ j k, k + j = n → (∀ i, i < k → beN v (pt0 v c (S (P i)) a) = beN v (pt0 v c (S (P i)) b)) → (pkD v c n S P a b → Mo_tells_65 (d + 1) 208 (nI n) x2 X (nI a) (nI b) 1 (nI k) m = Mo_tells_19 (d + 1) 208 (nI n) x2 X (nI a) (nI (b + 1)) (.int 0) (.int (nI n)) m) ∧ (¬ pkD v c n S P a b → Mo_tells_65 (d + 1) 208 (nI n) x2 X (nI a) (nI b) 1 (nI k) m = yI 0 m)
  | 0, k, e, hk => by
    have no : ¬ pkD v c n S P a b := fun ⟨i, h1, h2⟩ => h2 (hk i (by omega))
    refine ⟨fun h => absurd h no, fun _ => ?_⟩
    rw [Mo_tells_65_e _ _ _ _ _ _ _ _ _ _ kd_208, if_pos (by rw [n_le (by omega) (by omega)]; omega), if_neg (by decide)]
  | j + 1, k, e, hk => by
    have hW := W_le hv
    have hN := hT.2.1
    have p1 := (hP k (by omega)).1
    have p2 := (hP k (by omega)).2
    have b1 := be_lt hv (pt0_le hv (c := c) (mn := S (P k)) (w := a))
    have b2 := be_lt hv (pt0_le hv (c := c) (mn := S (P k)) (w := b))
    have st : Mo_tells_65 (d + 1) 208 (nI n) x2 X (nI a) (nI b) 1 (nI k) m = if ¬ nI (beN v (pt0 v c (S (P k)) a)) = nI (beN v (pt0 v c (S (P k)) b)) then Mo_tells_65 (d + 1) 208 (nI n) x2 X (nI a) (nI b) 0 (nI (k + 1)) m else Mo_tells_65 (d + 1) 208 (nI n) x2 X (nI a) (nI b) 1 (nI (k + 1)) m := by
      rw [Mo_tells_65_e _ _ _ _ _ _ _ _ _ _ kd_208, if_neg (by rw [n_le (by omega) (by omega)]; omega), if_neg (by decide), rf_208_63 hs, bR_s, rf_208_64 hs, bR_s, bR_s, bR_s, n_cl (by omega), p2, l_64, nI_mul, nI_add, nI_add, n_cl (by omega), n_cl (by omega), hT.2.2.2 _ p1 _ ha, hT.2.2.2 _ p1 _ hb, ga_254 (by omega), ga_253 (by omega), ga_254 (by omega), ga_253 (by omega), nI_1]
    rw [st]
    by_cases z : beN v (pt0 v c (S (P k)) a) = beN v (pt0 v c (S (P k)) b)
    · rw [if_neg (by rw [z]; exact fun q => q rfl)]
      exact Mo_tells_65_s hv d x2 X hs hT hn hP ha hb j (k + 1) (by omega) fun i hi => by
        by_cases y : i = k
        · rw [y]; exact z
        · exact hk i (by omega)
    · rw [if_pos (by rw [n_eq (by omega) (by omega)]; exact z), Mo_tells_65_0 d x2 X hn m j (k + 1) (by omega)]
      exact ⟨fun _ => rfl, fun q => absurd ⟨k, by omega, z⟩ q⟩
theorem Mo_tells_19_s {v : eV} (hv : Va v) (d : Nat) {c f N : Nat} {S P : Nat → Nat} {m : eM} (hs : Sk m) (hT : ToP v c N S m) {a n : Nat} (hn : n < 4) (hf : f < 6) (hP : PkM N n P m) (ha : a < 2 ^ nF v) (B : Bool) (hB : B = true ↔ tlP v c f n S P) (nx : ∀ w6 w7 w8, (∀ b, b < a → okp v c f n S P a b) → Mo_tells_3 (d + 1) 208 (nI n) (nI f) (canV v) (nI (a + 1)) w6 w7 w8 m = yI (bb B) m) : ∀ j b w7 w8, b + j = a → (∀ b', b' < b → okp v c f n S P a b') → Mo_tells_19 (d + 1) 208 (nI n) (nI f) (canV v) (nI a) (nI b) w7 w8 m = yI (bb B) m
  | 0, b, w7, w8, e, hb => by
    have hW := W_le hv
    rw [Mo_tells_19_e _ _ _ _ _ _ _ _ _ _ kd_208, if_pos (by rw [n_le (by omega) (by omega)]; omega), nI_1]
    exact nx _ _ _ fun b' h' => hb b' (by omega)
  | j + 1, b, w7, w8, e, hb => by
    have hW := W_le hv
    have go : ∀ w7 w8, okp v c f n S P a b → Mo_tells_19 (d + 1) 208 (nI n) (nI f) (canV v) (nI a) (nI (b + 1)) w7 w8 m = yI (bb B) m := fun w7 w8 q => Mo_tells_19_s hv d hs hT hn hf hP ha B hB nx j (b + 1) w7 w8 (by omega) fun b' h' => by
      by_cases y : b' = b
      · rw [y]; exact q
      · exact hb b' (by omega)
    have hx : a ^^^ b < 2 ^ 32 := Nat.xor_lt_two_pow (by omega) (by omega)
    rw [Mo_tells_19_e _ _ _ _ _ _ _ _ _ _ kd_208, if_neg (by rw [n_le (by omega) (by omega)]; omega), Mo_isIn_s _ _ (by omega), br0, nI_1]
    by_cases z1 : tb (canV v) a = true
    · rw [if_pos z1, Mo_isIn_s _ _ (by omega), br0]
      by_cases z2 : tb (canV v) b = true
      · rw [if_pos z2, xorN, bitI hx (by omega), Nat.testBit_xor]
        by_cases z3 : a.testBit f = b.testBit f
        · rw [if_neg (by rw [z3, Bool.xor_self]; exact fun q => q rfl)]
          exact go _ _ fun _ _ q => absurd z3 q
        · have e3 : (a.testBit f ^^ b.testBit f) = true := by
            cases y1 : a.testBit f <;> cases y2 : b.testBit f <;> first | rfl | exact absurd (y1.trans y2.symm) z3
          rw [if_pos (by rw [e3]; decide)]
          have h65 := Mo_tells_65_s hv d (nI f) (canV v) hs hT hn hP ha (show b < 2 ^ nF v by omega) n 0 (Nat.zero_add _) fun i hi => absurd hi (Nat.not_lt_zero _)
          by_cases z4 : pkD v c n S P a b
          · exact (h65.1 z4).trans (go _ _ fun _ _ _ => z4)
          · have : B = false := by
              cases y : B
              · rfl
              · exact absurd (tlP_i.mp (hB.mp y) a b (by omega) z1 z2 z3) z4
            rw [this]
            exact h65.2 z4
      · rw [if_neg z2]
        exact go _ _ fun _ q _ => absurd q z2
    · rw [if_neg z1]
      exact go _ _ fun q _ _ => absurd q z1
theorem Mo_tells_3_s {v : eV} (hv : Va v) (d : Nat) {c f N : Nat} {S P : Nat → Nat} {m : eM} (h : Mp v m) (hT : ToP v c N S m) {n : Nat} (hn : n < 4) (hf : f < 6) (hP : PkM N n P m) (B : Bool) (hB : B = true ↔ tlP v c f n S P) : ∀ j a w6 w7 w8, a + j = 2 ^ nF v → (∀ a' b, a' < a → b < a' → okp v c f n S P a' b) → Mo_tells_3 (d + 1) 208 (nI n) (nI f) (canV v) (nI a) w6 w7 w8 m = yI (bb B) m
  | 0, a, w6, w7, w8, e, ha => by
    have hW := W_le hv
    have hF := hv.f
    have hs := h.sk
    have : B = true := hB.mpr (tlP_i.mpr fun a' b hb q1 q2 q3 => ha a' b (by have := canV_lt hv q1; omega) hb q1 q2 q3)
    rw [Mo_tells_3_e _ _ _ _ _ _ _ _ _ _ kd_208, rf_208_10 hs, bR_s, gz_210, n_cl0, mp_f h, shl1 _ (by omega), if_pos (by rw [n_le (by omega) (by omega)]; omega), this]
    rfl
  | j + 1, a, w6, w7, w8, e, ha => by
    have hW := W_le hv
    have hF := hv.f
    have hs := h.sk
    rw [Mo_tells_3_e _ _ _ _ _ _ _ _ _ _ kd_208, rf_208_10 hs, bR_s, gz_210, n_cl0, mp_f h, shl1 _ (by omega), if_neg (by rw [n_le (by omega) (by omega)]; omega)]
    refine Mo_tells_19_s hv d hs hT hn hf hP (by omega) B hB (fun w6 w7 w8 q => ?_) a 0 w7 w8 (Nat.zero_add _) fun b hb => absurd hb (Nat.not_lt_zero _)
    exact Mo_tells_3_s hv d h hT hn hf hP B hB j (a + 1) w6 w7 w8 (by omega) fun a' b h1 h2 => by
      by_cases y : a' = a
      · subst y; exact q b h2
      · exact ha a' b (by omega) h2
theorem Mo_tells_s {v : eV} (hv : Va v) {D : Nat} (hD : 1 ≤ D) {c f N : Nat} {S P : Nat → Nat} {m : eM} (h : Mp v m) (hT : ToP v c N S m) {n : Nat} (hn : n < 4) (hf : f < 6) (hP : PkM N n P m) : Mo_tells D 208 (nI n) (nI f) (canV v) m = yI (bb (dcd (tlP v c f n S P))) m := by
  obtain ⟨d, rfl⟩ : ∃ d, D = d + 1 := ⟨D - 1, by omega⟩
  rw [Mo_tells_e _ _ _ _ _ _ kd_208]
  exact Mo_tells_3_s hv d h hT hn hf hP _ (dcd_i _) (2 ^ nF v) 0 _ _ _ (Nat.zero_add _) fun a' b h1 => absurd h1 (Nat.not_lt_zero _)
/-- what the search below a level may write -/
def sPk (k a j : Nat) : Bool := a == 254 && decide (k ≤ j)
theorem sPk_q {k : Nat} (a j : Nat) (h : sQ a j = false) : sPk k a j = false := by
  by_cases h1 : a = 254
  · subst h1; cases h
  · unfold sPk; simp [h1]
theorem sPk_l {k j : Nat} (h : j < k) : sPk k 254 j = false := by
  unfold sPk
  rw [decide_eq_false (by omega), Bool.and_false]
theorem sPk_n {k a j : Nat} (h : a ≠ 254) : sPk k a j = false := by
  unfold sPk; simp [h]
theorem sPk_u {k : Nat} (a j : Nat) (h : sPk k a j = false) : sPk (k + 1) a j = false := by
  unfold sPk at h ⊢
  by_cases h1 : a = 254
  · subst h1
    have h2 : decide (k ≤ j) = false := h
    rw [decide_eq_false_iff_not] at h2
    rw [decide_eq_false (by omega), Bool.and_false]
  · simp [h1]
theorem ToP.pk {v : eV} {c N : Nat} {S : Nat → Nat} {m m' : eM} {k : Nat} (h : ToP v c N S m) (f : Fr (sPk k) m m') : ToP v c N S m' := h.fr f (fun _ => sPk_n (by decide)) (fun _ => sPk_n (by decide)) (sPk_n (by decide))
theorem PkM.up {N k i : Nat} {P : Nat → Nat} {m : eM} (h : PkM N k P m) (hi : i < N) : PkM N (k + 1) (upF P k i) (sI m 254 k (nI i)) := fun x hx => by
  unfold upF
  rw [gI_sI]
  by_cases y : x = k
  · rw [if_pos y, if_pos ⟨rfl, y⟩]; exact ⟨hi, rfl⟩
  · rw [if_neg y, if_neg (fun q => y q.2)]; exact h x (by omega)
theorem srO_i {B : (Nat → Nat) → Bool} {N : Nat} {k t : Nat} {P : Nat → Nat} : (srO B N 0 k t P).isSome = B P := by
  rw [srO_0]
  cases B P <;> rfl
theorem Mo_finds_34_s {v : eV} (hv : Va v) {c f N : Nat} {S : Nat → Nat} {n : Nat} (hn : n < 4) (d : Nat) (X : Int64) {k : Nat} (hk : k < n) {P : Nat → Nat} (F : Nat → Option (Nat → Nat)) (hF : ∀ i m, i < N → Mp v m → ToP v c N S m → PkM N (k + 1) (upF P k i) m → ∃ m', Fr (sPk (k + 1)) m m' ∧ Mo_finds d 208 (nI (k + 1)) (nI n) (nI f) X m = yI (bb (F i).isSome) m' ∧ ∀ P', F i = some P' → PkM N n P' m') : ∀ j i m, i + j = N → Mp v m → ToP v c N S m → PkM N k P m → ∃ m', Fr (sPk k) m m' ∧ Mo_finds_34 (d + 1) 208 (nI k) (nI n) (nI f) X (nI i) m = yI (bb (lpO F j i).isSome) m' ∧ ∀ P', lpO F j i = some P' → PkM N n P' m'
  | 0, i, m, e, h, hT, hP => by
    have hN := hT.2.1
    refine ⟨m, Fr.rfl', ?_, fun P' q => by cases q⟩
    rw [Mo_finds_34_e _ _ _ _ _ _ _ _ kd_208, hT.1, if_pos (by rw [n_le (by omega) (by omega)]; omega)]
    rfl
  | j + 1, i, m, e, h, hT, hP => by
    have hN := hT.2.1
    have hs := h.sk
    have f1 : Fr (sPk k) m (sI m 254 k (nI i)) := Fr.rfl'.i (by unfold sPk; simp)
    have h1 := h.q (f1.up sPk_q)
    obtain ⟨m2, f2, e2, h2⟩ := hF i _ (by omega) h1 (hT.pk f1) (hP.up (by omega))
    have f12 := f1.tr (f2.up sPk_u)
    rw [Mo_finds_34_e _ _ _ _ _ _ _ _ kd_208, hT.1, if_neg (by rw [n_le (by omega) (by omega)]; omega), rf_208_64 hs, bR_s, gw_254 (by omega), mI_u, n_cl (by omega), nI_1, nI_1, e2, br0]
    cases z : F i with
    | some P' =>
      rw [if_pos (show (some P').isSome = true from rfl), lpO_y z]
      refine ⟨m2, f12, rfl, fun P'' q => ?_⟩
      cases q
      exact h2 P' z
    | none =>
      rw [if_neg (by intro q; cases q), lpO_n z]
      obtain ⟨m3, f3, e3, h3⟩ := Mo_finds_34_s hv hn d X hk F hF j (i + 1) m2 (by omega) (h.q (f12.up sPk_q)) (hT.pk f12) (hP.fr f12 fun x hx => sPk_l hx)
      exact ⟨m3, f12.tr f3, e3, h3⟩
theorem Mo_finds_s {v : eV} (hv : Va v) {c f N : Nat} {S : Nat → Nat} {n : Nat} (hn : n < 4) (hf : f < 6) : ∀ r k d t P m, k + r = n → r + 1 < d → Mp v m → ToP v c N S m → PkM N k P m → t = (if k = 0 then 0 else P (k - 1) + 1) → ∃ m', Fr (sPk k) m m' ∧ Mo_finds d 208 (nI k) (nI n) (nI f) (canV v) m = yI (bb (srO (fun P => dcd (tlP v c f n S P)) N r k t P).isSome) m' ∧ ∀ P', srO (fun P => dcd (tlP v c f n S P)) N r k t P = some P' → PkM N n P' m'
  | 0, k, d, t, P, m, e, hd, h, hT, hP, ht => by
    obtain ⟨d, rfl⟩ : ∃ x, d = x + 2 := ⟨d - 2, by omega⟩
    have hkn : k = n := by omega
    subst hkn
    refine ⟨m, Fr.rfl', ?_, fun P' q => ?_⟩
    · rw [Mo_finds_e _ _ _ _ _ _ _ kd_208, if_neg (fun q => q rfl), Mo_tells_s hv (by omega) h hT hn hf hP, bI_y, yB_bb, srO_i]
    · rw [srO_0] at q
      by_cases z : dcd (tlP v c f k S P) = true
      · rw [if_pos z] at q
        cases q
        exact hP
      · rw [if_neg z] at q; cases q
  | r + 1, k, d, t, P, m, e, hd, h, hT, hP, ht => by
    obtain ⟨d, rfl⟩ : ∃ x, d = x + 1 := ⟨d - 1, by omega⟩
    have hs := h.sk
    have hN := hT.2.1
    have htN : t ≤ N := by
      rw [ht]
      by_cases z : k = 0
      · rw [if_pos z]; exact Nat.zero_le _
      · rw [if_neg z]; exact (hP (k - 1) (by omega)).1
    rw [srO_s]
    obtain ⟨m', f1, e1, h1⟩ := Mo_finds_34_s hv hn d (canV v) (show k < n by omega) (P := P) (fun i => srO (fun P => dcd (tlP v c f n S P)) N r (k + 1) (i + 1) (upF P k i)) (fun i m hi h hT hP => Mo_finds_s hv hn hf r (k + 1) d (i + 1) (upF P k i) m (by omega) (by omega) h hT hP (by
      rw [if_neg (by omega), Nat.add_sub_cancel]
      unfold upF
      rw [if_pos rfl])) (N - t) t m (by omega) h hT hP
    refine ⟨m', f1, ?_, h1⟩
    rw [Mo_finds_e _ _ _ _ _ _ _ kd_208, if_pos (by rw [n_eq (by omega) (by omega)]; omega), ← e1]
    by_cases z : k = 0
    · rw [if_neg (by rw [n_eq0 (by omega)]; exact fun q => q z), ht, if_pos z]
      rfl
    · rw [if_pos (by rw [n_eq0 (by omega)]; exact z), rf_208_64 hs, bR_s, n_s1 (by omega), ga_254 (by omega), n_cl (by omega), (hP (k - 1) (by omega)).2, nI_1, lI_u, ht, if_neg z]
theorem Mo_lookout_57_s {v : eV} (hv : Va v) {c f w : Nat} (hf : f < 6) (hw : w < 4) (x1 : Int32) (d : Nat) : ∀ j n m, n + j = 4 → Mp v m → ToP v c (tl v c (nS v)).1 (tl v c (nS v)).2 m → ∃ m', Fr sQ m m' ∧ Mo_lookout_57 (d + 6) 208 x1 (nI f) (nI w) (canV v) (nI n) m = yI (loA (tl v c (nS v)).2 (fmO v c f j n) (nI w)) m'
  | 0, n, m, e, h, hT => by
    refine ⟨m, Fr.rfl', ?_⟩
    rw [Mo_lookout_57_e _ _ _ _ _ _ _ _ kd_208, l_4, if_pos (by rw [n_le (by omega) (by omega)]; omega), Mo_lookout_82_e _ _ _ _ _ _ _ _ kd_208, l_3, if_neg (by rw [n_le (by omega) (by omega)]; omega)]
    rfl
  | j + 1, n, m, e, h, hT => by
    have hs := h.sk
    have hN := hT.2.1
    obtain ⟨m1, f1, e1, h1⟩ := Mo_finds_s hv (show n < 4 by omega) hf n 0 (d + 5) 0 (fun _ => 0) m (by omega) (by omega) h hT (fun k hk => absurd hk (Nat.not_lt_zero _)) rfl
    have e1 : Mo_finds (d + 5) 208 0 (nI n) (nI f) (canV v) m = yI (bb (lkO v c f n).isSome) m1 := e1
    have h1 : ∀ P', lkO v c f n = some P' → PkM (tl v c (nS v)).1 n P' m1 := h1
    have hm1 := h.q (f1.up sPk_q)
    have hT1 := hT.pk f1
    have hs1 := hm1.sk
    rw [Mo_lookout_57_e _ _ _ _ _ _ _ _ kd_208, l_4, if_neg (by rw [n_le (by omega) (by omega)]; omega), e1, br1, nI_1]
    cases z : lkO v c f n with
    | some P' =>
      rw [fmO_y z, if_pos (show (some P').isSome = true from rfl)]
      refine ⟨m1, f1.up sPk_q, ?_⟩
      rw [Mo_lookout_82_e _ _ _ _ _ _ _ _ kd_208, l_3, if_pos (by rw [n_le (by omega) (by omega)]; omega)]
      show _ = yI (if nI w = 0 then nI n else if (nI w).toNatClampNeg ≤ n then nI ((tl v c (nS v)).2 (P' ((nI w).toNatClampNeg - 1))) else -1) m1
      rw [n_cl (by omega)]
      by_cases y : w = 0
      · rw [if_neg (by rw [n_eq0 (by omega)]; exact fun q => q y), if_pos (by rw [y]; rfl)]
      · have hne : ¬ nI w = 0 := by rw [n_eq0 (by omega)]; exact y
        rw [if_pos hne, if_neg hne]
        by_cases x : w ≤ n
        · have p1 := (h1 P' z (w - 1) (by omega)).1
          have p2 := (h1 P' z (w - 1) (by omega)).2
          rw [if_neg (by rw [n_lt (by omega) (by omega)]; omega), if_pos x, rf_208_62 hs1, bR_s, rf_208_64 hs1, bR_s, n_s1 (by omega), n_cl (by omega), ga_254 (by omega), p2, n_cl (by omega), ga_252 (by omega), hT1.2.2.1 _ p1]
        · rw [if_pos (by rw [n_lt (by omega) (by omega)]; omega), if_neg x]
    | none =>
      rw [fmO_n z, if_neg (by intro q; cases q)]
      obtain ⟨m2, f2, e2⟩ := Mo_lookout_57_s hv hf hw x1 d j (n + 1) m1 (by omega) hm1 hT1
      exact ⟨m2, (f1.up sPk_q).tr f2, e2⟩
theorem Mo_lookout_s {v : eV} (hv : Va v) {D : Nat} (hD : 6 ≤ D) {m : eM} (h : Mp v m) (c f w : Int32) : ∃ m', Fr sQ m m' ∧ Mo_lookout D 208 c f w m = yI (sp_lookout v c f w) m' := by
  obtain ⟨d, rfl⟩ : ∃ d, D = d + 6 := ⟨D - 6, by omega⟩
  have hF := hv.f
  have f0' : Fr sQ m (sI m 208 0 0) := Fr.rfl'.i rfl
  have h0 := h.q f0'
  have hs0 := h0.sk
  rw [Mo_lookout_e _ _ _ _ _ _ kd_208, mI_u, Mo_isThere_s hv h0 hs0, br0, Mo_isFact_s h0 hs0, br0, l_3, Mo_within_s _ _ (by omega), br1]
  unfold sp_lookout
  by_cases z1 : thr v c = true
  · rw [if_pos z1, if_pos z1]
    by_cases z2 : inN f (nF v) = true
    · rw [if_pos z2, if_pos z2]
      by_cases z3 : inN w 4 = true
      · rw [if_pos z3, if_pos z3]
        obtain ⟨f', hf', rfl⟩ := inN_of (by omega) z2
        obtain ⟨w', hw', rfl⟩ := inN_of (by omega) z3
        obtain ⟨c', hc', rfl, -⟩ := thr_of z1
        rw [n_cl (by omega), n_cl (by omega)]
        obtain ⟨m1, f1, e1, r1, -⟩ := Mo_canBe_s hv (show 5 ≤ d + 5 by omega) h0
        have h1 := h0.q f1
        rw [e1, bL_y]
        by_cases z4 : canV v = 0
        · rw [if_neg (fun q => q ((cmp0 _ _).mpr z4)), if_pos z4]
          exact ⟨m1, f0'.tr f1, rfl⟩
        · rw [if_pos (fun q => z4 ((cmp0 _ _).mp q)), if_neg z4]
          obtain ⟨m2, f2, e2, h2⟩ := Mo_turnsOut_s hv (show 3 ≤ d + 5 by omega) hc' h1 r1
          rw [e2, bV_y]
          obtain ⟨m3, f3, e3⟩ := Mo_lookout_57_s hv (show f' < 6 by omega) hw' (nI c') d 4 0 m2 rfl (h1.q (f2.up sTo_q)) h2
          exact ⟨m3, ((f0'.tr f1).tr (f2.up sTo_q)).tr f3, e3⟩
      · rw [if_neg z3, if_neg z3]
        exact ⟨_, f0', rfl⟩
    · rw [if_neg z2, if_neg z2]
      exact ⟨_, f0', rfl⟩
  · rw [if_neg z1, if_neg z1]
    exact ⟨_, f0', rfl⟩
