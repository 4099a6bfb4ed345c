/-! ===== the reference works an E out ===== -/
def CdA (C : List Nat) (i T w : Nat) (m : eM) : Prop := (Sk m ∧ gI m 222 0 = nI T ∧ i + C.length ≤ T ∧ T ≤ 1000 ∧ ∀ f, f < 6 → gI m 234 (1 + f) = bb (w.testBit f)) ∧ ∀ k, k < C.length → gI m 220 (i + k) = nI (C.getD k 0)
theorem CdA.fr {C : List Nat} {i T w : Nat} {m m' : eM} {S : Nat → Nat → Bool} (h : CdA C i T w m) (f : Fr S m m') (h1 : ∀ j, S 222 j = false) (h2 : ∀ j, S 234 j = false) (h3 : ∀ j, S 220 j = false) : CdA C i T w m' := ⟨⟨f.sk h.1.1, (f.1 _ _ (h1 _)).trans h.1.2.1, h.1.2.2.1, h.1.2.2.2.1, fun k hk => (f.1 _ _ (h2 _)).trans (h.1.2.2.2.2 k hk)⟩, fun k hk => (f.1 _ _ (h3 _)).trans (h.2 k hk)⟩
theorem CdA.ap {L1 L2 : List Nat} {i T w : Nat} {m : eM} (h : CdA (L1 ++ L2) i T w m) : CdA L1 i T w m ∧ CdA L2 (i + L1.length) T w m := by
  have hl := h.1.2.2.1
  rw [List.length_append] at hl
  refine ⟨⟨⟨h.1.1, h.1.2.1, by omega, h.1.2.2.2⟩, fun k hk => ?_⟩, ⟨⟨h.1.1, h.1.2.1, by omega, h.1.2.2.2⟩, fun k hk => ?_⟩⟩
  · rw [h.2 k (by rw [List.length_append]; omega), List.getD_eq_getElem?_getD, List.getD_eq_getElem?_getD, List.getElem?_append_left hk]
  · rw [Nat.add_assoc, h.2 (L1.length + k) (by rw [List.length_append]; omega), List.getD_eq_getElem?_getD, List.getD_eq_getElem?_getD, List.getElem?_append_right (by omega), show L1.length + k - L1.length = k by omega]
theorem CdA.cons {c : Nat} {L : List Nat} {i T w : Nat} {m : eM} (h : CdA (c :: L) i T w m) : CdA [c] i T w m ∧ CdA L (i + 1) T w m := CdA.ap (L1 := [c]) (L2 := L) h
theorem CdA.at {c i T w : Nat} {m : eM} (h : CdA [c] i T w m) : i < T ∧ gI m 220 i = nI c := by
  have h1 : i + 1 ≤ T := h.1.2.2.1
  exact ⟨h1, h.2 0 Nat.zero_lt_one⟩
/-- what is written at levels above dep, and at dep from the cell lo on -/
def sWk (dep lo a j : Nat) : Bool := decide (225 ≤ a ∧ a ≤ 233 ∧ dep < j) || decide (lo ≤ a ∧ a ≤ 232 ∧ 225 ≤ a ∧ j = dep)
theorem sWk_n {dep lo a j : Nat} (h1 : a < 225 ∨ 233 < a ∨ j ≤ dep) (h2 : a < lo ∨ 232 < a ∨ a < 225 ∨ j ≠ dep) : sWk dep lo a j = false := by
  unfold sWk
  rw [decide_eq_false (by omega), decide_eq_false (by omega)]; rfl
theorem sWk_t {dep lo a j : Nat} (h : (225 ≤ a ∧ a ≤ 233 ∧ dep < j) ∨ (lo ≤ a ∧ a ≤ 232 ∧ 225 ≤ a ∧ j = dep)) : sWk dep lo a j = true := by
  unfold sWk
  rw [Bool.or_eq_true, decide_eq_true_iff, decide_eq_true_iff]; exact h
theorem sWk_i {dep lo a j : Nat} (h : sWk dep lo a j = false) : ¬ (225 ≤ a ∧ a ≤ 233 ∧ dep < j) ∧ ¬ (lo ≤ a ∧ a ≤ 232 ∧ 225 ≤ a ∧ j = dep) := by
  unfold sWk at h
  rw [Bool.or_eq_false_iff, decide_eq_false_iff_not, decide_eq_false_iff_not] at h
  exact h
theorem Fr.wkU {dep lo lo' : Nat} {m m' : eM} (f : Fr (sWk dep lo) m m') (h : lo' ≤ lo) : Fr (sWk dep lo') m m' := f.up fun a j q => by
  have := sWk_i q
  exact sWk_n (by omega) (by omega)
theorem CdA.wk {C : List Nat} {i T w dep lo : Nat} {m m' : eM} (h : CdA C i T w m) (f : Fr (sWk dep lo) m m') : CdA C i T w m' := h.fr f (fun j => sWk_n (by omega) (by omega)) (fun j => sWk_n (by omega) (by omega)) (fun j => sWk_n (by omega) (by omega))
def sumV (m : eM) (j : Nat) : Int32 := if gI m 230 j = 21 then gI m 229 j - gI m 231 j else gI m 229 j + gI m 231 j
def teV (m : eM) (j : Nat) : Int32 := if gI m 228 j = 24 then fLt (gI m 227 j) (sumV m j) else if gI m 228 j = 25 then fEq (gI m 227 j) (sumV m j) else sumV m j
def tsV (m : eM) (j : Nat) : Int32 := if gI m 226 j = 26 then fAnd (gI m 225 j) (teV m j) else if gI m 226 j = 27 then fOr (gI m 225 j) (teV m j) else teV m j
def mSums (m : eM) (j : Nat) : eM := sI (sI m 229 j (sumV m j)) 232 j 0
def mTests (m : eM) (j : Nat) : eM := sI (sI (sI (sI (mSums m j) 225 j (tsV m j)) 228 j 0) 229 j 0) 230 j 20
def mOpens (m : eM) (j : Nat) : eM := sI (sI (sI (sI (sI m 226 j 0) 228 j 0) 229 j 0) 230 j 20) 232 j 0
theorem Mo_sums_s {m : eM} (hs : Sk m) (d : Nat) {j : Nat} (hj : j < 7) : Mo_sums d 208 (nI j) m = yV (mSums m j) := by
  rw [Mo_sums_e _ _ _ _ kd_208, rf_208_30 hs, bR_s, rf_208_31 hs, bR_s, ga_230 hj, n_cl (by omega)]
  unfold mSums sumV
  by_cases z : gI m 230 j = 21
  · rw [if_neg (fun q => q z), if_pos z, bR_s, ga_229 hj, rf_208_32 hs, bR_s, ga_231 hj, gw_229 hj, mI_u, gR_sI, rf_208_33 hs, bR_s, gw_232 hj, mI_u]
  · rw [if_pos z, if_neg z, bR_s, ga_229 hj, rf_208_32 hs, bR_s, ga_231 hj, gw_229 hj, mI_u, gR_sI, rf_208_33 hs, bR_s, gw_232 hj, mI_u]
theorem Mo_tests_s {m : eM} (hs : Sk m) {D : Nat} (hD : 1 ≤ D) {j : Nat} (hj : j < 7) : Mo_tests D 208 (nI j) m = yV (mTests m j) := by
  obtain ⟨d, rfl⟩ : ∃ d, D = d + 1 := ⟨D - 1, by omega⟩
  obtain ⟨m1, hm⟩ : ∃ m1, m1 = mSums m j := ⟨_, rfl⟩
  have hs1 : Sk m1 := by rw [hm]; exact hs
  have g : ∀ a, a ≠ 229 → a ≠ 232 → gI m1 a j = gI m a j := fun a q1 q2 => by
    rw [hm]; unfold mSums
    rw [gI_sI, if_neg (fun q => q2 q.1), gI_sI, if_neg (fun q => q1 q.1)]
  have g229 : gI m1 229 j = sumV m j := by
    rw [hm]; unfold mSums
    rw [gI_sI, if_neg (by omega), gI_w]
  have e136 : ∀ v, Mo_tests_136 (d + 1) 208 (nI j) v m1 = yV (sI (sI (sI (sI m1 225 j v) 228 j 0) 229 j 0) 230 j 20) := fun v => by
    rw [Mo_tests_136_e _ _ _ _ _ kd_208, rf_208_26 hs1, bR_s, gw_225 hj, mI_u, n_cl (by omega), gR_sI, rf_208_29 hs1, bR_s, gw_228 hj, mI_u, gR_sI, gR_sI, rf_208_30 hs1, bR_s, gw_229 hj, mI_u, gR_sI, gR_sI, gR_sI, rf_208_31 hs1, bR_s, gw_230 hj, mI_u]
  have e106 : ∀ v, Mo_tests_106 (d + 1) 208 (nI j) v m1 = Mo_tests_136 (d + 1) 208 (nI j) (if gI m 226 j = 27 then fOr (gI m 225 j) v else v) m1 := fun v => by
    rw [Mo_tests_106_e _ _ _ _ _ kd_208, rf_208_27 hs1, bR_s, ga_226 hj, n_cl (by omega), g 226 (by decide) (by decide)]
    by_cases z : gI m 226 j = 27
    · rw [if_neg (fun q => q z), if_pos z, rf_208_26 hs1, bR_s, ga_225 hj, g 225 (by decide) (by decide)]
      unfold fOr
      by_cases y : gI m 225 j = 0
      · rw [if_neg (fun q => q y), if_pos y]
        by_cases x : v = 0
        · rw [if_pos x, if_pos x]
        · rw [if_neg x, if_neg x]
      · rw [if_pos y, if_neg y]
    · rw [if_pos z, if_neg z]
  have e76 : ∀ v, Mo_tests_76 (d + 1) 208 (nI j) v m1 = Mo_tests_136 (d + 1) 208 (nI j) (if gI m 226 j = 26 then fAnd (gI m 225 j) v else if gI m 226 j = 27 then fOr (gI m 225 j) v else v) m1 := fun v => by
    rw [Mo_tests_76_e _ _ _ _ _ kd_208, rf_208_27 hs1, bR_s, ga_226 hj, n_cl (by omega), g 226 (by decide) (by decide)]
    by_cases z : gI m 226 j = 26
    · have z27 : ¬ gI m 226 j = 27 := by rw [z]; decide
      rw [if_neg (fun q => q z), if_pos z, rf_208_26 hs1, bR_s, ga_225 hj, g 225 (by decide) (by decide), e106, e106, if_neg z27, if_neg z27]
      unfold fAnd
      by_cases y : gI m 225 j = 0
      · rw [if_pos y, if_pos y]
      · rw [if_neg y, if_neg y]
        by_cases x : v = 0
        · rw [if_pos x, if_pos x]
        · rw [if_neg x, if_neg x]
    · rw [if_pos z, if_neg z, e106]
  have e44 : ∀ v, Mo_tests_44 (d + 1) 208 (nI j) v m1 = Mo_tests_76 (d + 1) 208 (nI j) (if gI m 228 j = 25 then fEq (gI m 227 j) (sumV m j) else v) m1 := fun v => by
    rw [Mo_tests_44_e _ _ _ _ _ kd_208, rf_208_29 hs1, bR_s, ga_228 hj, n_cl (by omega), g 228 (by decide) (by decide)]
    by_cases z : gI m 228 j = 25
    · rw [if_neg (fun q => q z), if_pos z, rf_208_28 hs1, bR_s, ga_227 hj, rf_208_30 hs1, bR_s, ga_229 hj, g 227 (by decide) (by decide), g229]
      unfold fEq
      by_cases y : gI m 227 j = sumV m j
      · rw [if_neg (fun q => q y), if_pos y]
      · rw [if_pos y, if_neg y]
    · rw [if_pos z, if_neg z]
  rw [Mo_tests_e _ _ _ _ kd_208, Mo_sums_s hs d hj, bV_y, ← hm, rf_208_30 hs1, bR_s, ga_229 hj, rf_208_29 hs1, bR_s, ga_228 hj, n_cl (by omega), g 228 (by decide) (by decide), g229]
  have fin : (if gI m 228 j = 24 then Mo_tests_44 (d + 1) 208 (nI j) (fLt (gI m 227 j) (sumV m j)) m1 else Mo_tests_44 (d + 1) 208 (nI j) (sumV m j) m1) = yV (mTests m j) := by
    rw [e44, e44, e76, e76, e136, e136]
    unfold mTests tsV teV
    rw [← hm]
    by_cases z : gI m 228 j = 24
    · have z25 : ¬ gI m 228 j = 25 := by rw [z]; decide
      rw [if_pos z, if_pos z, if_neg z25]
    · rw [if_neg z, if_neg z]
  rw [← fin]
  by_cases z : gI m 228 j = 24
  · rw [if_neg (fun q => q z), if_pos z, rf_208_28 hs1, bR_s, ga_227 hj, bR_s, ga_229 hj, g 227 (by decide) (by decide), g229]
    unfold fLt
    by_cases y : sumV m j ≤ gI m 227 j
    · rw [if_pos y, if_pos y]
    · rw [if_neg y, if_neg y]
  · rw [if_pos z, if_neg z]
theorem Mo_opens_s {m : eM} (hs : Sk m) (d : Nat) {j : Nat} (hj : j < 7) : Mo_opens d 208 (nI j) m = yV (mOpens m j) := by
  rw [Mo_opens_e _ _ _ _ kd_208, rf_208_27 hs, bR_s, gw_226 hj, mI_u, n_cl (by omega), gR_sI, rf_208_29 hs, bR_s, gw_228 hj, mI_u, gR_sI, gR_sI, rf_208_30 hs, bR_s, gw_229 hj, mI_u, gR_sI, gR_sI, gR_sI, rf_208_31 hs, bR_s, gw_230 hj, mI_u, gR_sI, gR_sI, gR_sI, gR_sI, rf_208_33 hs, bR_s, gw_232 hj, mI_u]
  rfl
theorem mSums_f (m : eM) (dep : Nat) : Fr (sWk dep 229) m (mSums m dep) := (Fr.rfl'.i (sWk_t (by omega))).i (sWk_t (by omega))
theorem mTests_f (m : eM) (dep : Nat) : Fr (sWk dep 225) m (mTests m dep) := (((((mSums_f m dep).wkU (by decide)).i (sWk_t (by omega))).i (sWk_t (by omega))).i (sWk_t (by omega))).i (sWk_t (by omega))
/-- not, so many times -/
def ngN : Nat → Int32 → Int32
  | 0, v => v
  | k + 1, v => ngN k (fNot v)
/-- which levels are of a not -/
def ByS (O : Nat → Nat) (dep : Nat) (m : eM) : Prop := ∀ j, 1 ≤ j → j ≤ dep → gI m 233 j = nI (O j) ∧ O j ≤ 1
theorem ByS.fr {O : Nat → Nat} {dep lo : Nat} {m m' : eM} (h : ByS O dep m) (f : Fr (sWk dep lo) m m') : ByS O dep m' := fun j q1 q2 => by
  rw [f.1 233 j (sWk_n (by omega) (by omega))]; exact h j q1 q2
/-- what a value is put to -/
def mPut (m : eM) (e : Nat) (v : Int32) : eM := sI m 231 e (if gI m 232 e = 0 then v else gI m 231 e * v)
theorem Mo_268_s (d : Nat) {O : Nat → Nat} {m : eM} (hs : Sk m) (i : Nat) (x4 : Int32) : ∀ dep v, dep ≤ 6 → ByS O dep m → ∃ u5, Mo_worked_268 (d + 1) 208 0 (nI dep) (nI i) x4 v m = Mo_worked_14 (d + 1) 208 0 (nI (popD O dep)) (nI (i + 1)) (.int x4) u5 (mPut m (popD O dep) (ngN (dep - popD O dep) v)) := by
  have e300 : ∀ e v, e ≤ 6 → Mo_worked_300 (d + 1) 208 0 (nI e) (nI i) x4 v m = Mo_worked_14 (d + 1) 208 0 (nI e) (nI (i + 1)) (.int x4) (.int v) (mPut m e v) := fun e v he => by
    rw [Mo_worked_300_e _ _ _ _ _ _ _ _ kd_208, rf_208_32 hs, bR_s, rf_208_33 hs, bR_s, ga_232 (by omega), n_cl (by omega), nI_1]
    unfold mPut
    by_cases z : gI m 232 e = 0
    · rw [if_neg (fun q => q z), gw_231 (by omega), mI_u, if_pos z]
    · rw [if_pos z, bR_s, ga_231 (by omega), gw_231 (by omega), mI_u, if_neg z]
  intro dep
  induction dep with
  | zero =>
    intro v _ _
    refine ⟨.int v, ?_⟩
    rw [Mo_worked_268_e _ _ _ _ _ _ _ _ kd_208, if_pos (by decide), e300 0 v (by decide)]
    rfl
  | succ k ih =>
    intro v hk hB
    obtain ⟨b1, b2⟩ := hB (k + 1) (by omega) (Nat.le_refl _)
    rw [Mo_worked_268_e _ _ _ _ _ _ _ _ kd_208, if_neg (by rw [show (0 : Int32) = nI 0 from rfl, n_le (by omega) (by omega)]; omega), rf_208_34 hs, bR_s, ga_233 (by omega), n_cl (by omega), b1]
    unfold popD
    by_cases z : O (k + 1) = 1
    · have hle := popD_le O k
      obtain ⟨u5, e5⟩ := ih (fNot v) (by omega) (fun j q1 q2 => hB j q1 (by omega))
      refine ⟨u5, ?_⟩
      rw [z, if_neg (show ¬ ¬ nI 1 = 1 from fun q => q rfl), if_pos rfl, n_m1 (Nat.succ_pos k), show k + 1 - popD O k = k - popD O k + 1 by omega]
      show (if ¬ v = 0 then Mo_worked_268 (d + 1) 208 0 (nI k) (nI i) x4 0 m else Mo_worked_268 (d + 1) 208 0 (nI k) (nI i) x4 1 m) = Mo_worked_14 (d + 1) 208 0 (nI (popD O k)) (nI (i + 1)) (.int x4) u5 (mPut m (popD O k) (ngN (k - popD O k) (fNot v)))
      rw [← e5]
      unfold fNot
      by_cases y : v = 0
      · rw [if_neg (fun q => q y), if_pos y]
      · rw [if_pos y, if_neg y]
    · refine ⟨.int v, ?_⟩
      have : O (k + 1) = 0 := by omega
      rw [this, if_pos (show ¬ nI 0 = 1 by decide), if_neg (by decide), e300 (k + 1) v hk, Nat.sub_self]
      rfl
/-! a code each -/
theorem w14 {d dep i T w c : Nat} {w4 w5 : Value} {m : eM} (h : CdA [c] i T w m) {R : oX} (hR : ∀ x : Int32, x = nI c → (if x = (28 : Int32) then (Mo_worked_46 (d + 1) 208 0 (nI dep) (nI i) x w5 m) else (if ¬ x = (30 : Int32) then (if x = (20 : Int32) then (bV (Mo_sums d 208 (nI dep) m) fun m5 => bR (gR m5 208 31) fun r6 => gw m5 r6 20 (nI dep) (mI m5 r6 (nI dep).toNatClampNeg x fun m7 => Mo_worked_14 (d + 1) 208 0 (nI dep) (nI i + (1 : Int32)) (.int x) w5 m7)) else (if ¬ x = (21 : Int32) then (if ¬ x = (22 : Int32) then (if x = (24 : Int32) then (Mo_worked_137 (d + 1) 208 0 (nI dep) (nI i) x w5 m) else (if ¬ x = (25 : Int32) then (if x = (26 : Int32) then (bV (Mo_tests d 208 (nI dep) m) fun m8 => bR (gR m8 208 27) fun r9 => gw m8 r9 20 (nI dep) (mI m8 r9 (nI dep).toNatClampNeg x fun m10 => Mo_worked_14 (d + 1) 208 0 (nI dep) (nI i + (1 : Int32)) (.int x) w5 m10)) else (if ¬ x = (27 : Int32) then (if x < (100 : Int32) then (if (20 : Int32) ≤ x then (if ¬ x = (29 : Int32) then (Mo_worked_268 (d + 1) 208 0 (nI dep) (nI i) x (0 : Int32) m) else (bV (Mo_tests d 208 (nI dep) m) fun m11 => bR (gR m11 208 26) fun r12 => ga m11 r12 20 (nI dep) (Mo_worked_268 (d + 1) 208 0 (nI dep + (-1 : Int32)) (nI i) x (gI m11 r12 (nI dep).toNatClampNeg) m11))) else (bR (gR m 208 35) fun r13 => ga m r13 20 x (lI (gI m r13 x.toNatClampNeg) fun v14 => if ¬ x = (29 : Int32) then (Mo_worked_268 (d + 1) 208 0 (nI dep) (nI i) x v14 m) else (bV (Mo_tests d 208 (nI dep) m) fun m15 => bR (gR m15 208 26) fun r16 => ga m15 r16 20 (nI dep) (Mo_worked_268 (d + 1) 208 0 (nI dep + (-1 : Int32)) (nI i) x (gI m15 r16 (nI dep).toNatClampNeg) m15))))) else (lI (x - (100 : Int32)) fun v17 => if ¬ x = (29 : Int32) then (Mo_worked_268 (d + 1) 208 0 (nI dep) (nI i) x v17 m) else (bV (Mo_tests d 208 (nI dep) m) fun m18 => bR (gR m18 208 26) fun r19 => ga m18 r19 20 (nI dep) (Mo_worked_268 (d + 1) 208 0 (nI dep + (-1 : Int32)) (nI i) x (gI m18 r19 (nI dep).toNatClampNeg) m18)))) else (bV (Mo_tests d 208 (nI dep) m) fun m20 => bR (gR m20 208 27) fun r21 => gw m20 r21 20 (nI dep) (mI m20 r21 (nI dep).toNatClampNeg x fun m22 => Mo_worked_14 (d + 1) 208 0 (nI dep) (nI i + (1 : Int32)) (.int x) w5 m22)))) else (Mo_worked_137 (d + 1) 208 0 (nI dep) (nI i) x w5 m))) else (bR (gR m 208 33) fun r23 => gw m r23 20 (nI dep) (mI m r23 (nI dep).toNatClampNeg x fun m24 => Mo_worked_14 (d + 1) 208 0 (nI dep) (nI i + (1 : Int32)) (.int x) w5 m24))) else (bV (Mo_sums d 208 (nI dep) m) fun m25 => bR (gR m25 208 31) fun r26 => gw m25 r26 20 (nI dep) (mI m25 r26 (nI dep).toNatClampNeg x fun m27 => Mo_worked_14 (d + 1) 208 0 (nI dep) (nI i + (1 : Int32)) (.int x) w5 m27)))) else (Mo_worked_46 (d + 1) 208 0 (nI dep) (nI i) x w5 m))) = R) : Mo_worked_14 (d + 1) 208 0 (nI dep) (nI i) w4 w5 m = R := by
  obtain ⟨h1, h2⟩ := h.at
  have hT := h.1.2.2.2.1
  rw [Mo_worked_14_e _ _ _ _ _ _ _ _ kd_208, rf_208_22 h.1.1, bR_s, show (0 : Int32) = nI 0 from rfl, ga_222 (by decide), n_cl (by decide), h.1.2.1, if_neg (by rw [n_le (by omega) (by omega)]; omega), rf_208_20 h.1.1, bR_s, ga_220 (by omega), n_cl (by omega)]
  exact hR _ h2
theorem w22 {d dep i T w : Nat} {w4 w5 : Value} {m : eM} (h : CdA [22] i T w m) (hd : dep < 7) : ∃ u4 u5, Mo_worked_14 (d + 1) 208 0 (nI dep) (nI i) w4 w5 m = Mo_worked_14 (d + 1) 208 0 (nI dep) (nI (i + 1)) u4 u5 (sI m 232 dep 22) := ⟨.int 22, w5, w14 h fun x hx => by
  subst hx
  rw [if_neg (by decide), if_pos (by decide), if_neg (by decide), if_pos (by decide), if_neg (by decide), rf_208_33 h.1.1, bR_s, gw_232 hd, mI_u, n_cl (by omega), nI_1]
  rfl⟩
theorem w20 {d dep i T w c : Nat} (hc : c = 20 ∨ c = 21) {w4 w5 : Value} {m : eM} (h : CdA [c] i T w m) (hd : dep < 7) : ∃ u4 u5, Mo_worked_14 (d + 1) 208 0 (nI dep) (nI i) w4 w5 m = Mo_worked_14 (d + 1) 208 0 (nI dep) (nI (i + 1)) u4 u5 (sI (mSums m dep) 230 dep (nI c)) := ⟨.int (nI c), w5, w14 h fun x hx => by
  subst hx
  have hs : Sk (mSums m dep) := h.1.1
  rcases hc with rfl | rfl
  · rw [if_neg (by decide), if_pos (by decide), if_pos (by decide), Mo_sums_s h.1.1 d hd, bV_y, rf_208_31 hs, bR_s, gw_230 hd, mI_u, n_cl (by omega), nI_1]
  · rw [if_neg (by decide), if_pos (by decide), if_neg (by decide), if_neg (by decide), Mo_sums_s h.1.1 d hd, bV_y, rf_208_31 hs, bR_s, gw_230 hd, mI_u, n_cl (by omega), nI_1]⟩
theorem w24 {d dep i T w c : Nat} (hc : c = 24 ∨ c = 25) {w4 w5 : Value} {m : eM} (h : CdA [c] i T w m) (hd : dep < 7) : ∃ u4 u5, Mo_worked_14 (d + 1) 208 0 (nI dep) (nI i) w4 w5 m = Mo_worked_14 (d + 1) 208 0 (nI dep) (nI (i + 1)) u4 u5 (sI (sI (sI (sI (mSums m dep) 227 dep (sumV m dep)) 228 dep (nI c)) 229 dep 0) 230 dep 20) := ⟨.int (nI c), w5, w14 h fun x hx => by
  subst hx
  have hs : Sk (mSums m dep) := h.1.1
  have g229 : gI (mSums m dep) 229 dep = sumV m dep := by
    unfold mSums
    rw [gI_sI, if_neg (by omega), gI_w]
  have e : Mo_worked_137 (d + 1) 208 0 (nI dep) (nI i) (nI c) w5 m = Mo_worked_14 (d + 1) 208 0 (nI dep) (nI (i + 1)) (.int (nI c)) w5 (sI (sI (sI (sI (mSums m dep) 227 dep (sumV m dep)) 228 dep (nI c)) 229 dep 0) 230 dep 20) := by
    rw [Mo_worked_137_e _ _ _ _ _ _ _ _ kd_208, Mo_sums_s h.1.1 d hd, bV_y, rf_208_28 hs, bR_s, rf_208_30 hs, bR_s, ga_229 hd, gw_227 hd, mI_u, n_cl (by omega), g229, gR_sI, rf_208_29 hs, bR_s, gw_228 hd, mI_u, gR_sI, gR_sI, rf_208_30 hs, bR_s, gw_229 hd, mI_u, gR_sI, gR_sI, gR_sI, rf_208_31 hs, bR_s, gw_230 hd, mI_u, nI_1]
  rw [← e]
  rcases hc with rfl | rfl
  · rw [if_neg (by decide), if_pos (by decide), if_neg (by decide), if_pos (by decide), if_pos (by decide), if_pos (by decide)]
  · rw [if_neg (by decide), if_pos (by decide), if_neg (by decide), if_pos (by decide), if_pos (by decide), if_neg (by decide), if_neg (by decide)]⟩
theorem w26 {d dep i T w c : Nat} (hD : 1 ≤ d) (hc : c = 26 ∨ c = 27) {w4 w5 : Value} {m : eM} (h : CdA [c] i T w m) (hd : dep < 7) : ∃ u4 u5, Mo_worked_14 (d + 1) 208 0 (nI dep) (nI i) w4 w5 m = Mo_worked_14 (d + 1) 208 0 (nI dep) (nI (i + 1)) u4 u5 (sI (mTests m dep) 226 dep (nI c)) := ⟨.int (nI c), w5, w14 h fun x hx => by
  subst hx
  have hs : Sk (mTests m dep) := h.1.1
  rcases hc with rfl | rfl
  · rw [if_neg (by decide), if_pos (by decide), if_neg (by decide), if_pos (by decide), if_pos (by decide), if_neg (by decide), if_pos (by decide), if_pos (by decide), Mo_tests_s h.1.1 hD hd, bV_y, rf_208_27 hs, bR_s, gw_226 hd, mI_u, n_cl (by omega), nI_1]
  · rw [if_neg (by decide), if_pos (by decide), if_neg (by decide), if_pos (by decide), if_pos (by decide), if_neg (by decide), if_pos (by decide), if_neg (by decide), if_neg (by decide), Mo_tests_s h.1.1 hD hd, bV_y, rf_208_27 hs, bR_s, gw_226 hd, mI_u, n_cl (by omega), nI_1]⟩
/-- ( and not -/
theorem w28 {d dep i T w : Nat} (nt : Bool) {w4 w5 : Value} {m : eM} (h : CdA [if nt = true then 30 else 28] i T w m) (hd : dep + 1 < 7) : ∃ u4 u5, Mo_worked_14 (d + 1) 208 0 (nI dep) (nI i) w4 w5 m = Mo_worked_14 (d + 1) 208 0 (nI (dep + 1)) (nI (i + 1)) u4 u5 (mOpens (sI m 233 (dep + 1) (nI (if nt = true then 1 else 0))) (dep + 1)) := by
  have hs := h.1.1
  cases nt with
  | true =>
    refine ⟨.int 30, w5, w14 h fun x hx => ?_⟩
    subst hx
    have hs1 : Sk (sI m 233 (dep + 1) 1) := hs
    show (if nI 30 = 28 then _ else _) = _
    rw [if_neg (by decide), if_neg (by decide)]
    show Mo_worked_46 (d + 1) 208 0 (nI dep) (nI i) (nI 30) w5 m = _
    rw [Mo_worked_46_e _ _ _ _ _ _ _ _ kd_208, rf_208_34 hs, bR_s, if_neg (by decide), nI_1, gw_233 hd, mI_u, n_cl (by omega), Mo_opens_s hs1 d hd, bV_y, nI_1]
    rfl
  | false =>
    refine ⟨.int 28, w5, w14 h fun x hx => ?_⟩
    subst hx
    have hs1 : Sk (sI m 233 (dep + 1) 0) := hs
    show (if nI 28 = 28 then _ else _) = _
    rw [if_pos (by decide)]
    show Mo_worked_46 (d + 1) 208 0 (nI dep) (nI i) (nI 28) w5 m = _
    rw [Mo_worked_46_e _ _ _ _ _ _ _ _ kd_208, rf_208_34 hs, bR_s, if_pos (by decide), nI_1, gw_233 hd, mI_u, n_cl (by omega), Mo_opens_s hs1 d hd, bV_y, nI_1]
    rfl
theorem w29 {d dep i T w : Nat} (hD : 1 ≤ d) {w4 w5 : Value} {m : eM} (h : CdA [29] i T w m) (hd : dep + 1 < 7) : Mo_worked_14 (d + 1) 208 0 (nI (dep + 1)) (nI i) w4 w5 m = Mo_worked_268 (d + 1) 208 0 (nI dep) (nI i) 29 (tsV m (dep + 1)) (mTests m (dep + 1)) := w14 h fun x hx => by
  subst hx
  have hs : Sk (mTests m (dep + 1)) := h.1.1
  have g : gI (mTests m (dep + 1)) 225 (dep + 1) = tsV m (dep + 1) := by
    unfold mTests
    rw [gI_sI, if_neg (by omega), gI_sI, if_neg (by omega), gI_sI, if_neg (by omega), gI_w]
  rw [if_neg (by decide), if_pos (by decide), if_neg (by decide), if_pos (by decide), if_pos (by decide), if_neg (by decide), if_pos (by decide), if_neg (by decide), if_pos (by decide), if_pos (by decide), if_pos (by decide), if_neg (by decide), Mo_tests_s h.1.1 hD hd, bV_y, rf_208_26 hs, bR_s, ga_225 hd, n_cl (by omega), g, n_m1 (Nat.succ_pos _)]
  rfl
theorem wNum {d dep i T w k : Nat} (hk : k < 10000) {w4 w5 : Value} {m : eM} (h : CdA [100 + k] i T w m) : Mo_worked_14 (d + 1) 208 0 (nI dep) (nI i) w4 w5 m = Mo_worked_268 (d + 1) 208 0 (nI dep) (nI i) (nI (100 + k)) (nI k) m := w14 h fun x hx => by
  subst hx
  have ne : ∀ c, c < 100 → ¬ nI (100 + k) = nI c := fun c hc => by rw [n_eq (by omega) (by omega)]; omega
  rw [if_neg (show ¬ nI (100 + k) = (28 : Int32) from ne 28 (by decide)), if_pos (show ¬ nI (100 + k) = (30 : Int32) from ne 30 (by decide)), if_neg (show ¬ nI (100 + k) = (20 : Int32) from ne 20 (by decide)), if_pos (show ¬ nI (100 + k) = (21 : Int32) from ne 21 (by decide)), if_pos (show ¬ nI (100 + k) = (22 : Int32) from ne 22 (by decide)), if_neg (show ¬ nI (100 + k) = (24 : Int32) from ne 24 (by decide)), if_pos (show ¬ nI (100 + k) = (25 : Int32) from ne 25 (by decide)), if_neg (show ¬ nI (100 + k) = (26 : Int32) from ne 26 (by decide)), if_pos (show ¬ nI (100 + k) = (27 : Int32) from ne 27 (by decide)), if_neg (by rw [show (100 : Int32) = nI 100 from rfl, n_lt (by omega) (by omega)]; omega), lI_u, if_pos (show ¬ nI (100 + k) = (29 : Int32) from ne 29 (by decide)), show (100 : Int32) = nI 100 from rfl, nI_sb (by omega), show 100 + k - 100 = k by omega]
theorem wFct {d dep i T w f : Nat} (hf : f < 6) {w4 w5 : Value} {m : eM} (h : CdA [1 + f] i T w m) : Mo_worked_14 (d + 1) 208 0 (nI dep) (nI i) w4 w5 m = Mo_worked_268 (d + 1) 208 0 (nI dep) (nI i) (nI (1 + f)) (bb (w.testBit f)) m := w14 h fun x hx => by
  subst hx
  have ne : ∀ c, 20 ≤ c → c < 100 → ¬ nI (1 + f) = nI c := fun c hc hc2 => by rw [n_eq (by omega) (by omega)]; omega
  rw [if_neg (show ¬ nI (1 + f) = (28 : Int32) from ne 28 (by decide) (by decide)), if_pos (show ¬ nI (1 + f) = (30 : Int32) from ne 30 (by decide) (by decide)), if_neg (show ¬ nI (1 + f) = (20 : Int32) from ne 20 (by decide) (by decide)), if_pos (show ¬ nI (1 + f) = (21 : Int32) from ne 21 (by decide) (by decide)), if_pos (show ¬ nI (1 + f) = (22 : Int32) from ne 22 (by decide) (by decide)), if_neg (show ¬ nI (1 + f) = (24 : Int32) from ne 24 (by decide) (by decide)), if_pos (show ¬ nI (1 + f) = (25 : Int32) from ne 25 (by decide) (by decide)), if_neg (show ¬ nI (1 + f) = (26 : Int32) from ne 26 (by decide) (by decide)), if_pos (show ¬ nI (1 + f) = (27 : Int32) from ne 27 (by decide) (by decide)), if_pos (by rw [show (100 : Int32) = nI 100 from rfl, n_lt (by omega) (by omega)]; omega), if_neg (by rw [show (20 : Int32) = nI 20 from rfl, n_le (by omega) (by omega)]; omega), rf_208_35 h.1.1, bR_s, ga_234 (by omega), lI_u, n_cl (by omega), if_pos (show ¬ nI (1 + f) = (29 : Int32) from ne 29 (by decide) (by decide)), h.1.2.2.2.2 f hf]
