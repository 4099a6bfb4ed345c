/-! ===== LOOKOUT: what is asked ===== -/
theorem mnV_mono {v : eV} (hv : Va v) {c i j : Nat} (h : i ≤ j) (hj : j < nS v) : mnV v c i ≤ mnV v c j := Nat.add_le_add_right (hv.so h hj) _
/-- at whom it pointed ahead of the minute of saying k -/
def bfV (v : eV) (c k w : Nat) : Nat := if k = 0 then 6 else pt0 v c (mnV v c (k - 1)) w
/-- at whom it pointed in the minute before -/
def bmV (v : eV) (c m w : Nat) : Nat := if m = 0 then 6 else pt0 v c (m - 1) w
def trnP (v : eV) (c k : Nat) : Prop := ∃ w, w < 64 ∧ tb (canV v) w = true ∧ bfV v c k w ≠ pt0 v c (mnV v c k) w
def tinP (v : eV) (c m : Nat) : Prop := ∃ w, w < 64 ∧ tb (canV v) w = true ∧ pt0 v c m w ≠ bmV v c m w
noncomputable def dcd (p : Prop) : Bool := @decide p (Classical.propDecidable p)
theorem dcd_i (p : Prop) : dcd p = true ↔ p := by
  unfold dcd
  exact @decide_eq_true_iff p (Classical.propDecidable p)
theorem dcd_f (p : Prop) : dcd p = false ↔ ¬ p := by
  constructor
  · intro h q
    rw [(dcd_i p).mpr q] at h
    cases h
  · intro h
    cases z : dcd p
    · rfl
    · exact absurd ((dcd_i p).mp z) h
noncomputable def tl (v : eV) (c : Nat) : Nat → Nat × (Nat → Nat)
  | 0 => (0, fun _ => 0)
  | k + 1 => if (decide (mnV v c k < 1440) && dcd (trnP v c k)) = true then ((tl v c k).1 + 1, fun j => if j = (tl v c k).1 then mnV v c k else (tl v c k).2 j) else tl v c k
theorem tl_s (v : eV) (c k : Nat) : tl v c (k + 1) = if (decide (mnV v c k < 1440) && dcd (trnP v c k)) = true then ((tl v c k).1 + 1, fun j => if j = (tl v c k).1 then mnV v c k else (tl v c k).2 j) else tl v c k := rfl
theorem tl_y {v : eV} {c k : Nat} (h1 : mnV v c k < 1440) (h2 : trnP v c k) : tl v c (k + 1) = ((tl v c k).1 + 1, fun j => if j = (tl v c k).1 then mnV v c k else (tl v c k).2 j) := by
  rw [tl_s, if_pos (by rw [decide_eq_true h1, (dcd_i _).mpr h2]; rfl)]
theorem tl_n {v : eV} {c k : Nat} (h : ¬ (mnV v c k < 1440 ∧ trnP v c k)) : tl v c (k + 1) = tl v c k := by
  rw [tl_s, if_neg]
  rw [Bool.and_eq_true, decide_eq_true_iff, dcd_i]
  exact h
theorem tl_le (v : eV) (c : Nat) : ∀ k, (tl v c k).1 ≤ k
  | 0 => Nat.le_refl _
  | k + 1 => by
    have := tl_le v c k
    by_cases z : mnV v c k < 1440 ∧ trnP v c k
    · rw [tl_y z.1 z.2]; exact Nat.succ_le_succ this
    · rw [tl_n z]; omega
theorem tl_mn (v : eV) (c : Nat) : ∀ k j, j < (tl v c k).1 → ∃ i, i < k ∧ (tl v c k).2 j = mnV v c i ∧ mnV v c i < 1440
  | 0, j, h => absurd h (Nat.not_lt_zero _)
  | k + 1, j, h => by
    by_cases z : mnV v c k < 1440 ∧ trnP v c k
    · rw [tl_y z.1 z.2] at h ⊢
      have h : j < (tl v c k).1 + 1 := h
      show ∃ i, i < k + 1 ∧ (if j = (tl v c k).1 then mnV v c k else (tl v c k).2 j) = mnV v c i ∧ mnV v c i < 1440
      by_cases y : j = (tl v c k).1
      · rw [if_pos y]; exact ⟨k, by omega, rfl, z.1⟩
      · rw [if_neg y]
        obtain ⟨i, h1, h2⟩ := tl_mn v c k j (by omega)
        exact ⟨i, by omega, h2⟩
    · rw [tl_n z] at h ⊢
      obtain ⟨i, h1, h2⟩ := tl_mn v c k j h
      exact ⟨i, by omega, h2⟩
theorem trn_no {v : eV} (hv : Va v) {c k i : Nat} (hk : k < nS v) (hi : i < k) (h : mnV v c i = mnV v c k) : ¬ trnP v c k := by
  have h1 := mnV_mono hv (c := c) (show i ≤ k - 1 by omega) (by omega)
  have h2 := mnV_mono hv (c := c) (show k - 1 ≤ k by omega) hk
  rintro ⟨w, -, -, h3⟩
  apply h3
  unfold bfV
  rw [if_neg (by omega), show mnV v c (k - 1) = mnV v c k by omega]
theorem tin_trn {v : eV} (hv : Va v) {c k : Nat} (hk : k < nS v) (h : k = 0 ∨ mnV v c (k - 1) < mnV v c k) : tinP v c (mnV v c k) ↔ trnP v c k := by
  have e : ∀ w, bfV v c k w = bmV v c (mnV v c k) w := fun w => by
    unfold bfV bmV
    by_cases z : k = 0
    · rw [if_pos z]
      by_cases y : mnV v c k = 0
      · rw [if_pos y]
      · rw [if_neg y]
        refine (ptN_none _ fun i hi q => ?_).symm
        have := mnV_mono hv (c := c) (show k ≤ i by omega) hi
        unfold mnV at this y q
        omega
    · have h : mnV v c (k - 1) < mnV v c k := by rcases h with h | h; exact absurd h z; exact h
      rw [if_neg z, if_neg (by omega)]
      refine ptN_between (by omega) _ fun i hi q => ?_
      have q : mnV v c (k - 1) < mnV v c i ∧ mnV v c i ≤ mnV v c k - 1 := q
      by_cases y : i < k
      · have := mnV_mono hv (c := c) (show i ≤ k - 1 by omega) (by omega)
        omega
      · have := mnV_mono hv (c := c) (show k ≤ i by omega) hi
        omega
  constructor
  · rintro ⟨w, h1, h2, h3⟩; exact ⟨w, h1, h2, fun q => h3 (by rw [← e, q])⟩
  · rintro ⟨w, h1, h2, h3⟩; exact ⟨w, h1, h2, fun q => h3 (by rw [e, q])⟩
theorem tl_in {v : eV} (hv : Va v) {c : Nat} : ∀ k, k < nS v → mnV v c k < 1440 → tinP v c (mnV v c k) → 0 < (tl v c (k + 1)).1 ∧ (tl v c (k + 1)).2 ((tl v c (k + 1)).1 - 1) = mnV v c k
  | 0, hk, hm, ht => by
    rw [tl_y hm ((tin_trn hv hk (Or.inl rfl)).mp ht)]
    refine ⟨Nat.succ_pos _, ?_⟩
    show (if (tl v c 0).1 + 1 - 1 = (tl v c 0).1 then mnV v c 0 else (tl v c 0).2 ((tl v c 0).1 + 1 - 1)) = mnV v c 0
    rw [if_pos (Nat.add_sub_cancel _ _)]
  | k + 1, hk, hm, ht => by
    by_cases z : trnP v c (k + 1)
    · rw [tl_y hm z]
      refine ⟨Nat.succ_pos _, ?_⟩
      show (if (tl v c (k + 1)).1 + 1 - 1 = (tl v c (k + 1)).1 then mnV v c (k + 1) else (tl v c (k + 1)).2 ((tl v c (k + 1)).1 + 1 - 1)) = mnV v c (k + 1)
      rw [if_pos (Nat.add_sub_cancel _ _)]
    · have h2 := mnV_mono hv (c := c) (show k ≤ k + 1 by omega) hk
      by_cases y : mnV v c k = mnV v c (k + 1)
      · rw [tl_n (fun q => z q.2)]
        have := tl_in hv (c := c) k (by omega) (by omega) (by rw [y]; exact ht)
        rw [← y]; exact this
      · exact absurd ((tin_trn hv hk (Or.inr (by rw [Nat.add_sub_cancel]; omega))).mp ht) z
theorem tl_A {v : eV} (hv : Va v) {c k : Nat} (hk : k < nS v) (h : 0 < (tl v c k).1 ∧ (tl v c k).2 ((tl v c k).1 - 1) = mnV v c k) : ¬ trnP v c k := by
  obtain ⟨i, h1, h2, -⟩ := tl_mn v c k ((tl v c k).1 - 1) (by omega)
  exact trn_no hv hk h1 (h2.symm.trans h.2)
theorem tl_B {v : eV} (hv : Va v) {c k : Nat} (hk : k < nS v) (h : ¬ (0 < (tl v c k).1 ∧ (tl v c k).2 ((tl v c k).1 - 1) = mnV v c k)) (hm : mnV v c k < 1440) : tinP v c (mnV v c k) ↔ trnP v c k := by
  by_cases z : k = 0 ∨ mnV v c (k - 1) < mnV v c k
  · exact tin_trn hv hk z
  · have h2 := mnV_mono hv (c := c) (show k - 1 ≤ k by omega) hk
    have e : mnV v c (k - 1) = mnV v c k := by omega
    have e2 : k - 1 + 1 = k := by omega
    constructor
    · intro q
      exfalso
      apply h
      have := tl_in hv (c := c) (k - 1) (by omega) (by omega) (by rw [e]; exact q)
      rw [e2, e] at this
      exact this
    · intro q
      exact absurd q (trn_no hv hk (show k - 1 < k by omega) e)
/-! the search -/
def upF (P : Nat → Nat) (k i : Nat) : Nat → Nat := fun x => if x = k then i else P x
def lpO (F : Nat → Option (Nat → Nat)) : Nat → Nat → Option (Nat → Nat)
  | 0, _ => none
  | j + 1, i => (match F i with
    | some P => some P
    | none => lpO F j (i + 1))
def srO (B : (Nat → Nat) → Bool) (N : Nat) : Nat → Nat → Nat → (Nat → Nat) → Option (Nat → Nat)
  | 0, _, _, P => if B P = true then some P else none
  | r + 1, k, t, P => lpO (fun i => srO B N r (k + 1) (i + 1) (upF P k i)) (N - t) t
theorem srO_0 (B : (Nat → Nat) → Bool) (N k t : Nat) (P : Nat → Nat) : srO B N 0 k t P = if B P = true then some P else none := rfl
theorem srO_s (B : (Nat → Nat) → Bool) (N r k t : Nat) (P : Nat → Nat) : srO B N (r + 1) k t P = lpO (fun i => srO B N r (k + 1) (i + 1) (upF P k i)) (N - t) t := rfl
theorem lpO_y {F : Nat → Option (Nat → Nat)} {j i : Nat} {P : Nat → Nat} (h : F i = some P) : lpO F (j + 1) i = some P := by
  show (match F i with | some P => some P | none => lpO F j (i + 1)) = _
  rw [h]
theorem lpO_n {F : Nat → Option (Nat → Nat)} {j i : Nat} (h : F i = none) : lpO F (j + 1) i = lpO F j (i + 1) := by
  show (match F i with | some P => some P | none => lpO F j (i + 1)) = _
  rw [h]
def tlP (v : eV) (c f n : Nat) (S P : Nat → Nat) : Prop := ∀ a b, tb (canV v) a = true → tb (canV v) b = true → a.testBit f = true → ¬ b.testBit f = true → ∃ k, k < n ∧ beN v (pt0 v c (S (P k)) a) ≠ beN v (pt0 v c (S (P k)) b)
noncomputable def lkO (v : eV) (c f n : Nat) : Option (Nat → Nat) := srO (fun P => dcd (tlP v c f n (tl v c (nS v)).2 P)) (tl v c (nS v)).1 n 0 0 fun _ => 0
noncomputable def fmO (v : eV) (c f : Nat) : Nat → Nat → Option (Nat × (Nat → Nat))
  | 0, _ => none
  | j + 1, n => (match lkO v c f n with
    | some P => some (n, P)
    | none => fmO v c f j (n + 1))
theorem fmO_y {v : eV} {c f j n : Nat} {P : Nat → Nat} (h : lkO v c f n = some P) : fmO v c f (j + 1) n = some (n, P) := by
  show (match lkO v c f n with | some P => some (n, P) | none => fmO v c f j (n + 1)) = _
  rw [h]
theorem fmO_n {v : eV} {c f j n : Nat} (h : lkO v c f n = none) : fmO v c f (j + 1) n = fmO v c f j (n + 1) := by
  show (match lkO v c f n with | some P => some (n, P) | none => fmO v c f j (n + 1)) = _
  rw [h]
def loA (S : Nat → Nat) (o : Option (Nat × (Nat → Nat))) (w : Int32) : Int32 := match o with
  | none => -1
  | some (n, P) => if w = 0 then nI n else if w.toNatClampNeg ≤ n then nI (S (P (w.toNatClampNeg - 1))) else -1
noncomputable def sp_lookout (v : eV) (c f w : Int32) : Int32 := if thr v c = true then (if inN f (nF v) = true then (if inN w 4 = true then (if canV v = 0 then -1 else loA (tl v c.toNatClampNeg (nS v)).2 (fmO v c.toNatClampNeg f.toNatClampNeg 4 0) w) else -1) else -1) else -1
/-! ===== the reference ===== -/
theorem Mo_pointsTo_8_neg {v : eV} (hv : Va v) {m : eM} (h : Mp v m) {r : Nat → Nat} {n : Nat} (hr : Rw v r n m) (d : Nat) {c w : Nat} (hc : c < 2) : ∀ k, k ≤ n → Mo_pointsTo_8 (d + 1) 208 (nI c) (-1 : Int32) (nI w) (nI k - 1) m = yI (-1 : Int32) m
  | 0, _ => by rw [Mo_pointsTo_8_e _ _ _ _ _ _ _ kd_208, n_neg1, if_pos (by decide)]
  | k + 1, hk => by
    have hn := hr.2.1
    have ih := Mo_pointsTo_8_neg hv h hr d (w := w) hc k (by omega)
    obtain ⟨r1, ⟨s1, s2, s3, s4, s5, s6, s7, s8⟩, r3, r4⟩ := hr.2.2 k (by omega)
    have hlt := hv.lt hc
    have hs := h.sk
    rw [Mo_pointsTo_8_e _ _ _ _ _ _ _ kd_208, nI_pred, if_neg (nI_pos (by omega)), rf_208_46 hs, bR_s, rf_208_49 hs, bR_s, ga_241 (by omega), n_cl (by omega), r1, ga_238 s1, rf_208_17 hs, bR_s, ga_217 (by omega), n_cl (by omega), n_cl (by omega), s3, mp_lat h (by omega), nI_add, if_pos, addm1]
    · exact ih
    · rw [Int32.lt_iff_toInt_lt, nI_toInt (by omega)]
      show (-1 : Int32).toInt < _
      have : (-1 : Int32).toInt = -1 := by decide
      omega
theorem Mo_before_s {v : eV} (hv : Va v) {m : eM} (h : Mp v m) (hr : Rw v (fun i => i) (nS v) m) {D : Nat} (hD : 1 ≤ D) {c mn w : Nat} (hc : c < 2) (hm : mn < 2000) (hw : w < 64) : Mo_pointsTo D 208 (nI c) (nI mn - (1 : Int32)) (nI w) m = yI (pI (bmV v c mn w)) m := by
  unfold bmV
  by_cases z : mn = 0
  · subst z
    rw [if_pos rfl, n_neg1]
    obtain ⟨d, rfl⟩ : ∃ d, D = d + 1 := ⟨D - 1, by omega⟩
    rw [Mo_pointsTo_e _ _ _ _ _ _ kd_208, hr.1, Mo_pointsTo_8_neg hv h hr d hc _ (Nat.le_refl _)]
    rfl
  · rw [if_neg z, n_s1 (by omega), Mo_pointsTo_s hv h hr hD hc (by omega) hw]
    rfl
theorem pt0_7 {v : eV} (hv : Va v) (c m w : Nat) : pt0 v c m w < 7 := by
  have := hv.p
  rcases pt0_le hv (c := c) (mn := m) (w := w) with z | z <;> omega
theorem bm_7 {v : eV} (hv : Va v) (c m w : Nat) : bmV v c m w < 7 := by
  unfold bmV
  split
  · decide
  · exact pt0_7 hv _ _ _
theorem Mo_turnsIn_3_s {v : eV} (hv : Va v) {m : eM} (h : Mp v m) (hr : Rw v (fun i => i) (nS v) m) (d : Nat) {c mn : Nat} (hc : c < 2) (hm : mn < 1440) (B : Bool) (hB : B = true ↔ tinP v c mn) : ∀ j u, u + j = 2 ^ nF v → (∀ w, w < u → ¬ (tb (canV v) w = true ∧ pt0 v c mn w ≠ bmV v c mn w)) → Mo_turnsIn_3 (d + 2) 208 (nI c) (nI mn) (canV v) (nI u) m = yI (bb B) m
  | 0, u, e, hu => by
    have hs := h.sk
    have hf := hv.f
    have hW := W_le hv
    have : B = false := by
      cases z : B
      · rfl
      · obtain ⟨w, w1, w2, w3⟩ := hB.mp z
        exact absurd ⟨w2, w3⟩ (hu w (by have := canV_lt hv w2; omega))
    rw [Mo_turnsIn_3_e _ _ _ _ _ _ _ kd_208, rf_208_10 hs, bR_s, gz_210, n_cl0, mp_f h, shl1 _ (by omega), if_pos (by rw [n_le (by omega) (by omega)]; omega), this]
    rfl
  | j + 1, u, e, hu => by
    have hs := h.sk
    have hf := hv.f
    have hW := W_le hv
    rw [Mo_turnsIn_3_e _ _ _ _ _ _ _ kd_208, rf_208_10 hs, bR_s, gz_210, n_cl0, mp_f h, shl1 _ (by omega), if_neg (by rw [n_le (by omega) (by omega)]; omega), Mo_isIn_s _ _ (by omega), br0, nI_1, Mo_pointsTo_s hv h hr (by omega) hc (by omega) (by omega), bI_y, Mo_before_s hv h hr (by omega) hc (by omega) (by omega), bI_y]
    have step : ¬ (tb (canV v) u = true ∧ pt0 v c mn u ≠ bmV v c mn u) → Mo_turnsIn_3 (d + 2) 208 (nI c) (nI mn) (canV v) (nI (u + 1)) m = yI (bb B) m := fun q => Mo_turnsIn_3_s hv h hr d hc hm B hB j (u + 1) (by omega) fun w hw => by
      by_cases y : w = u
      · subst y; exact q
      · exact hu w (by omega)
    have e1 : (pI (ptN v (fun i => i) c mn u (nS v)) = pI (bmV v c mn u)) = (pt0 v c mn u = bmV v c mn u) := propext (pI_i (pt0_7 hv c mn u) (bm_7 hv c mn u))
    by_cases z : tb (canV v) u = true
    · rw [if_pos z]
      by_cases y : pt0 v c mn u = bmV v c mn u
      · rw [if_pos (by rw [e1]; exact y)]
        exact step fun q => q.2 y
      · rw [if_neg (by rw [e1]; exact y)]
        have : B = true := hB.mpr ⟨u, by omega, z, y⟩
        rw [this]; rfl
    · rw [if_neg z]
      exact step fun q => z q.1
theorem Mo_turnsIn_s {v : eV} (hv : Va v) {m : eM} (h : Mp v m) (hr : Rw v (fun i => i) (nS v) m) {D : Nat} (hD : 2 ≤ D) {c mn : Nat} (hc : c < 2) (hm : mn < 1440) (B : Bool) (hB : B = true ↔ tinP v c mn) : Mo_turnsIn D 208 (nI c) (nI mn) (canV v) m = yI (bb B) m := by
  obtain ⟨d, rfl⟩ : ∃ d, D = d + 2 := ⟨D - 2, by omega⟩
  rw [Mo_turnsIn_e _ _ _ _ _ _ kd_208]
  exact Mo_turnsIn_3_s hv h hr d hc hm B hB _ 0 (Nat.zero_add _) fun w hw => absurd hw (Nat.not_lt_zero _)
/-- what turnsOut may write -/
def sTo (a j : Nat) : Bool := (a == 252 || a == 253) || (a == 208 && j == 61)
theorem sTo_n {a j : Nat} (h1 : a ≠ 252) (h2 : a ≠ 253) (h3 : a ≠ 208 ∨ j ≠ 61) : sTo a j = false := by
  unfold sTo
  rcases h3 with h3 | h3 <;> simp [h1, h2, h3]
theorem sTo_q (a j : Nat) (h : sQ a j = false) : sTo a j = false := by
  by_cases h1 : a = 252
  · subst h1; cases h
  · by_cases h2 : a = 253
    · subst h2; cases h
    · refine sTo_n h1 h2 ?_
      by_cases h3 : a = 208
      · by_cases h4 : j = 61
        · subst h3; subst h4; cases h
        · exact Or.inr h4
      · exact Or.inl h3
theorem Rw.to {v : eV} {r : Nat → Nat} {n : Nat} {m m' : eM} (h : Rw v r n m) (f : Fr sTo m m') : Rw v r n m' := h.fr f rfl fun a j h1 h2 => sTo_n (by omega) (by omega) (by omega)
/-- the turns that the reference holds -/
def ToP (v : eV) (c N : Nat) (S : Nat → Nat) (m : eM) : Prop := gI m 208 61 = nI N ∧ N ≤ 24 ∧ (∀ t, t < N → gI m 252 t = nI (S t)) ∧ ∀ t, t < N → ∀ w, w < 2 ^ nF v → gI m 253 (64 * t + w) = nI (beN v (pt0 v c (S t) w))
theorem ToP.fr {v : eV} {c N : Nat} {S : Nat → Nat} {m m' : eM} {T : Nat → Nat → Bool} (h : ToP v c N S m) (f : Fr T m m') (h1 : ∀ j, T 252 j = false) (h2 : ∀ j, T 253 j = false) (h3 : T 208 61 = false) : ToP v c N S m' := ⟨(f.1 _ _ h3).trans h.1, h.2.1, fun t ht => (f.1 _ _ (h1 _)).trans (h.2.2.1 t ht), fun t ht w hw => (f.1 _ _ (h2 _)).trans (h.2.2.2 t ht w hw)⟩
theorem Mo_turnsOut_92_s {v : eV} (hv : Va v) (d : Nat) {c mn : Nat} (hc : c < 2) (hm : mn < 1440) {N : Nat} (hN : N < 24) (X : Int64) (s : Nat) : ∀ j u m, Mp v m → Rw v (fun i => i) (nS v) m → gI m 208 61 = nI N → (∀ w, w < u → gI m 253 (64 * N + w) = nI (beN v (pt0 v c mn w))) → u + j = 2 ^ nF v → ∃ m', Fr (fun a k => a == 253 && decide (64 * N ≤ k)) m m' ∧ Mo_turnsOut_92 (d + 3) 208 (nI c) X (nI s) (nI mn) (nI u) m = Mo_turnsOut_8 (d + 3) 208 (nI c) X (nI (s + 1)) (.int (nI mn)) (.int (nI (2 ^ nF v))) (sI m' 208 61 (nI (N + 1))) ∧ ∀ w, w < 2 ^ nF v → gI m' 253 (64 * N + w) = nI (beN v (pt0 v c mn w))
  | 0, u, m, h, hr, h61, hu, e => by
    have hs := h.sk
    have hf := hv.f
    have hW := W_le hv
    refine ⟨m, Fr.rfl', ?_, fun w hw => hu w (by omega)⟩
    rw [Mo_turnsOut_92_e _ _ _ _ _ _ _ _ kd_208, rf_208_10 hs, bR_s, gz_210, n_cl0, mp_f h, shl1 _ (by omega), if_pos (by rw [n_le (by omega) (by omega)]; omega), mI_u, h61, nI_1, nI_1, show u = 2 ^ nF v by omega]
  | j + 1, u, m, h, hr, h61, hu, e => by
    have hs := h.sk
    have hf := hv.f
    have hW := W_le hv
    have f1 : Fr (fun a k => a == 253 && decide (64 * N ≤ k)) m (sI m 253 (64 * N + u) (nI (beN v (pt0 v c mn u)))) := Fr.rfl'.i (by simp)
    have f1' : Fr sTo m (sI m 253 (64 * N + u) (nI (beN v (pt0 v c mn u)))) := Fr.rfl'.i rfl
    obtain ⟨m', f2, e2, h2⟩ := Mo_turnsOut_92_s hv d hc hm hN X s j (u + 1) _ (h.q (f1'.up sTo_q)) (hr.to f1') h61 (fun w hw => by
      rw [gI_sI]
      by_cases y : w = u
      · rw [if_pos ⟨rfl, by rw [y]⟩, y]
      · rw [if_neg (by omega)]; exact hu w (by omega)) (by omega)
    refine ⟨m', f1.tr f2, ?_, h2⟩
    rw [Mo_turnsOut_92_e _ _ _ _ _ _ _ _ kd_208, rf_208_10 hs, bR_s, gz_210, n_cl0, mp_f h, shl1 _ (by omega), if_neg (by rw [n_le (by omega) (by omega)]; omega), rf_208_63 hs, bR_s, Mo_bearingAt_s hv h hr (by omega) hc (by omega) (by omega), bI_y, h61, l_64, nI_mul, nI_add, gw_253 (by omega), mI_u, n_cl (by omega), nI_1]
    exact e2
theorem Mo_turnsOut_8_s {v : eV} (hv : Va v) (d : Nat) {c : Nat} (hc : c < 2) : ∀ j s w5 w6 m, Mp v m → Rw v (fun i => i) (nS v) m → ToP v c (tl v c s).1 (tl v c s).2 m → s + j = nS v → ∃ m', Fr sTo m m' ∧ Mo_turnsOut_8 (d + 3) 208 (nI c) (canV v) (nI s) w5 w6 m = yV m' ∧ ToP v c (tl v c (nS v)).1 (tl v c (nS v)).2 m'
  | 0, s, w5, w6, m, h, hr, hT, e => by
    have hS := hv.s
    refine ⟨m, Fr.rfl', ?_, by rw [show nS v = s by omega]; exact hT⟩
    rw [Mo_turnsOut_8_e _ _ _ _ _ _ _ _ kd_208, mp_s h, if_pos (by rw [n_le (by omega) (by omega)]; omega)]
  | j + 1, s, w5, w6, m, h, hr, hT, e => by
    have hS := hv.s
    have hs := h.sk
    have hl := hv.lt hc
    have hwn := hv.wn (j := s) (Or.inl (by omega))
    have hle := tl_le v c s
    have em : whn v s + lat v c = mnV v c s := rfl
    have skip : ∀ w5 w6 m1, Fr sTo m m1 → ToP v c (tl v c s).1 (tl v c s).2 m1 → ¬ (mnV v c s < 1440 ∧ trnP v c s) → ∃ m', Fr sTo m m' ∧ Mo_turnsOut_8 (d + 3) 208 (nI c) (canV v) (nI (s + 1)) w5 w6 m1 = yV m' ∧ ToP v c (tl v c (nS v)).1 (tl v c (nS v)).2 m' := fun w5 w6 m1 f1 hT1 hn => by
      obtain ⟨m', f2, e2, h2⟩ := Mo_turnsOut_8_s hv d hc j (s + 1) w5 w6 m1 (h.q (f1.up sTo_q)) (hr.to f1) (by rw [tl_n hn]; exact hT1) (by omega)
      exact ⟨m', f1.tr f2, e2, h2⟩
    rw [Mo_turnsOut_8_e _ _ _ _ _ _ _ _ kd_208, mp_s h, if_neg (by rw [n_le (by omega) (by omega)]; omega), rf_208_46 hs, bR_s, ga_238 (by omega), n_cl (by omega), mp_whn h (by omega), rf_208_17 hs, bR_s, ga_217 (by omega), n_cl (by omega), mp_lat h hc, nI_add, em, lI_u, l_1439, nI_1]
    by_cases z : mnV v c s < 1440
    · rw [if_neg (by rw [n_lt (by omega) (by omega)]; omega), hT.1]
      by_cases y : 0 < (tl v c s).1 ∧ (tl v c s).2 ((tl v c s).1 - 1) = mnV v c s
      · rw [if_neg (by rw [n_le0 (by omega)]; omega), rf_208_62 hs, bR_s, n_s1 y.1, ga_252 (by omega), n_cl (by omega), hT.2.2.1 _ (by omega), if_pos (by rw [y.2])]
        exact skip _ _ m Fr.rfl' hT fun q => tl_A hv (by omega) y q.2
      · -- asked
        have go : ∃ m', Fr sTo m m' ∧ Mo_turnsOut_64 (d + 3) 208 (nI c) (canV v) (nI s) (nI (mnV v c s)) w6 m = yV m' ∧ ToP v c (tl v c (nS v)).1 (tl v c (nS v)).2 m' := by
          rw [Mo_turnsOut_64_e _ _ _ _ _ _ _ _ kd_208, Mo_turnsIn_s hv h hr (by omega) hc z (dcd (trnP v c s)) ((dcd_i _).trans (tl_B hv (by omega) y z).symm), br1]
          by_cases x : trnP v c s
          · rw [if_pos ((dcd_i _).mpr x), rf_208_62 hs, bR_s, hT.1, gw_252 (by omega), mI_u, n_cl (by omega)]
            have f1 : Fr sTo m (sI m 252 (tl v c s).1 (nI (mnV v c s))) := Fr.rfl'.i rfl
            obtain ⟨m2, f2, e2, h2⟩ := Mo_turnsOut_92_s hv d hc z (show (tl v c s).1 < 24 by omega) (canV v) s (2 ^ nF v) 0 _ (h.q (f1.up sTo_q)) (hr.to f1) hT.1 (fun w hw => absurd hw (Nat.not_lt_zero _)) (Nat.zero_add _)
            have f2' : Fr sTo (sI m 252 (tl v c s).1 (nI (mnV v c s))) m2 := f2.up fun a k q => by
              by_cases a1 : a = 253
              · subst a1; cases q
              · simp [a1]
            have f3 : Fr sTo m2 (sI m2 208 61 (nI ((tl v c s).1 + 1))) := Fr.rfl'.i rfl
            have f13 := (f1.tr f2').tr f3
            have hW := W_le hv
            obtain ⟨m', f4, e4, h4⟩ := Mo_turnsOut_8_s hv d hc j (s + 1) (.int (nI (mnV v c s))) (.int (nI (2 ^ nF v))) _ (h.q (f13.up sTo_q)) (hr.to f13) (by
              rw [tl_y z x]
              refine ⟨gI_w _ _ _ _, by show (tl v c s).1 + 1 ≤ 24; omega, fun t ht => ?_, fun t ht w hw => ?_⟩
              · have ht : t < (tl v c s).1 + 1 := ht
                show gI m2 252 t = nI (if t = (tl v c s).1 then mnV v c s else (tl v c s).2 t)
                rw [f2.1 252 t (by simp), gI_sI]
                by_cases q : t = (tl v c s).1
                · rw [if_pos ⟨rfl, q⟩, if_pos q]
                · rw [if_neg (fun q2 => q q2.2), if_neg q]
                  exact hT.2.2.1 t (by omega)
              · have ht : t < (tl v c s).1 + 1 := ht
                show gI m2 253 (64 * t + w) = nI (beN v (pt0 v c (if t = (tl v c s).1 then mnV v c s else (tl v c s).2 t) w))
                by_cases q : t = (tl v c s).1
                · rw [if_pos q, q]; exact h2 w hw
                · rw [if_neg q, f2.1 253 _ (by simp; omega)]
                  exact hT.2.2.2 t (by omega) w hw) (by omega)
            exact ⟨m', f13.tr f4, e2.trans e4, h4⟩
          · rw [if_neg (by rw [dcd_i]; exact x), nI_1]
            exact skip _ _ m Fr.rfl' hT fun q => x q.2
        by_cases x : (tl v c s).1 = 0
        · rw [if_pos (by rw [n_le0 (by omega)]; exact x)]; exact go
        · rw [if_neg (by rw [n_le0 (by omega)]; exact x), rf_208_62 hs, bR_s, n_s1 (by omega), ga_252 (by omega), n_cl (by omega), hT.2.2.1 _ (by omega), if_neg]
          · exact go
          · obtain ⟨i, i1, i2, i3⟩ := tl_mn v c s ((tl v c s).1 - 1) (by omega)
            rw [n_eq (by omega) (by omega)]
            exact fun q => y ⟨by omega, q⟩
    · rw [if_pos (by rw [n_lt (by omega) (by omega)]; omega)]
      exact skip _ _ m Fr.rfl' hT fun q => z q.1
theorem Mo_turnsOut_s {v : eV} (hv : Va v) {D : Nat} (hD : 3 ≤ D) {c : Nat} (hc : c < 2) {m : eM} (h : Mp v m) (hr : Rw v (fun i => i) (nS v) m) : ∃ m', Fr sTo m m' ∧ Mo_turnsOut D 208 (nI c) (canV v) m = yV m' ∧ ToP v c (tl v c (nS v)).1 (tl v c (nS v)).2 m' := by
  obtain ⟨d, rfl⟩ : ∃ d, D = d + 3 := ⟨D - 3, by omega⟩
  have f1 : Fr sTo m (sI m 208 61 0) := Fr.rfl'.i rfl
  obtain ⟨m', f2, e2, h2⟩ := Mo_turnsOut_8_s hv d hc (nS v) 0 eU eU _ (h.q (f1.up sTo_q)) (hr.to f1) ⟨gI_w _ _ _ _, Nat.zero_le _, fun t ht => absurd ht (Nat.not_lt_zero _), fun t ht => absurd ht (Nat.not_lt_zero _)⟩ (Nat.zero_add _)
  refine ⟨m', f1.tr f2, ?_, h2⟩
  rw [Mo_turnsOut_e _ _ _ _ _ kd_208, mI_u]
  exact e2
