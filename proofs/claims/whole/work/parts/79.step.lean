/-! ===== the class' step to the next token ===== -/
theorem lN_sh8 {a c : Nat} (ha : a < 2 ^ 56) (hc : c < 256) : (lN a <<< ((8 : Int32).toInt64 &&& 63)) ||| (nI c).toInt64 = lN (a * 256 + c) := by
  refine t_ext fun i hi => ?_
  rw [t_or, show (8 : Int32) = nI 8 from rfl, t_shl (by decide) _ hi, nI_J (by omega), show nJ c = lN c from rfl, tb_lN _ (by omega), tb_lN _ (by omega), tb_lN _ (by omega), show a * 256 + c = 2 ^ 8 * a + c by omega, Nat.testBit_two_pow_mul_add a (show c < 2 ^ 8 from hc)]
  by_cases z : i < 8
  · rw [decide_eq_false (show ¬ 8 ≤ i by omega), if_pos z]; simp
  · rw [decide_eq_true (show 8 ≤ i by omega), if_neg z, show c.testBit i = false from Nat.testBit_lt_two_pow (Nat.lt_of_lt_of_le hc (Nat.pow_le_pow_right (n := 2) (i := 8) (by decide) (by omega)))]
    simp
theorem nI_sb {a b : Nat} (h : b ≤ a) : nI a - nI b = nI (a - b) := by
  have : nI a = nI (a - b) + nI b := by rw [nI_add, show a - b + b = a by omega]
  rw [this, Int32.add_sub_cancel]
/-- where behindBlanks ends -/
theorem Ta_bb_s (d : Nat) {s : eTp} {m : eM} (hs : Sk m) (h : TpM 4 5 s m) (x1 : Int32) : ∀ k i, k = s.1 - i → i ≤ s.1 → Ta_behindBlanks_2 d 4 x1 (nI i) m = yI (nI (sk_ s (blk s) i)) m
  | 0, i, e, hi => by
    have ht := h.2.1
    rw [Ta_behindBlanks_2_e _ _ _ _ _ kd_4, if_neg (nI_pos (by omega)), h.1, if_pos (by rw [n_le (by omega) (by omega)]; omega), skN (fun q => by omega)]
  | k + 1, i, e, hi => by
    have ht := h.2.1
    have hc := h.2.2.2 i (by omega)
    rw [Ta_behindBlanks_2_e _ _ _ _ _ kd_4, if_neg (nI_pos (by omega)), h.1, if_neg (by rw [n_le (by omega) (by omega)]; omega), rf_4_0 hs, bR_s, gl_5, al_5, toI, if_neg (by rw [n_le (by omega) (by omega)]; omega), bR_s, ga_5 (by omega), n_cl (by omega), h.2.2.1 i (by omega), nI_1]
    by_cases z : s.2 i = 10
    · rw [if_pos (by rw [z]; rfl), skY (by omega) (blk_i.mpr (Or.inl z))]
      exact Ta_bb_s d hs h x1 k (i + 1) (by omega) (by omega)
    · rw [if_neg (by rw [show (10 : Int32) = nI 10 from rfl, n_eq (by omega) (by omega)]; exact z), bR_s, ga_5 (by omega), h.2.2.1 i (by omega)]
      by_cases y : s.2 i = 32
      · rw [if_neg (by rw [y]; exact fun q => q rfl), skY (by omega) (blk_i.mpr (Or.inr y))]
        exact Ta_bb_s d hs h x1 k (i + 1) (by omega) (by omega)
      · rw [if_pos (by rw [show (32 : Int32) = nI 32 from rfl, n_eq (by omega) (by omega)]; exact y), skN (fun q => by have := blk_i.mp q.2; omega)]
theorem Ta_re_s (d : Nat) {s : eTp} {m : eM} (hs : Sk m) (h : TpM 4 5 s m) {lo hi' : Nat} (hl : lo < 128) (hh : hi' < 128) {p : Nat → Bool} (hp : ∀ i, p i = true ↔ lo ≤ s.2 i ∧ s.2 i ≤ hi') : ∀ k i, k = s.1 - i → i ≤ s.1 → Ta_runEnd_5 d 4 (nI lo) (nI hi') (nI i) m = yI (nI (sk_ s p i)) m
  | 0, i, e, hi => by
    have ht := h.2.1
    rw [Ta_runEnd_5_e _ _ _ _ _ _ kd_4, if_neg (nI_pos (by omega)), h.1, if_pos (by rw [n_le (by omega) (by omega)]; omega), skN (fun q => by omega)]
  | k + 1, i, e, hi => by
    have ht := h.2.1
    have hc := h.2.2.2 i (by omega)
    rw [Ta_runEnd_5_e _ _ _ _ _ _ kd_4, if_neg (nI_pos (by omega)), h.1, if_neg (by rw [n_le (by omega) (by omega)]; omega), rf_4_0 hs, bR_s, gl_5, al_5, toI, if_neg (by rw [n_le (by omega) (by omega)]; omega), bR_s, ga_5 (by omega), n_cl (by omega), h.2.2.1 i (by omega), nI_1]
    by_cases z : s.2 i < lo
    · rw [if_pos (by rw [n_lt (by omega) (by omega)]; exact z), skN (fun q => by have := (hp i).mp q.2; omega)]
    · rw [if_neg (by rw [n_lt (by omega) (by omega)]; exact z), bR_s, ga_5 (by omega), h.2.2.1 i (by omega)]
      by_cases y : hi' < s.2 i
      · rw [if_pos (by rw [n_lt (by omega) (by omega)]; exact y), skN (fun q => by have := (hp i).mp q.2; omega)]
      · rw [if_neg (by rw [n_lt (by omega) (by omega)]; exact y), skY (by omega) ((hp i).mpr ⟨by omega, by omega⟩)]
        exact Ta_re_s d hs h hl hh hp k (i + 1) (by omega) (by omega)
/-- what a step writes -/
def sTk (a j : Nat) : Bool := a == 4 && decide (2 ≤ j ∧ j ≤ 7)
theorem sTk_n {a j : Nat} (h : a ≠ 4 ∨ j < 2 ∨ 7 < j) : sTk a j = false := by
  unfold sTk
  by_cases z : a = 4
  · rw [decide_eq_false (by omega), Bool.and_false]
  · simp [z]
theorem TpM.st {s : eTp} {m m' : eM} (h : TpM 4 5 s m) (f : Fr sTk m m') : TpM 4 5 s m' := ⟨(f.1 4 1 (sTk_n (by omega))).trans h.1, h.2.1, fun i hi => (f.1 5 i (sTk_n (by omega))).trans (h.2.2.1 i hi), h.2.2.2⟩
theorem Ta_rw_s (d : Nat) {s : eTp} : ∀ k i f a m, Sk m → TpM 4 5 s m → i + k ≤ s.1 → ∃ m', Fr sTk m m' ∧ Ta_readWord_10 d 4 (nI (i + k)) (nI i) m = Ta_readWord_53 d 4 (nI (i + k)) (nI (i + k)) m' ∧ gI m' 4 4 = gI m 4 4 ∧ (f + k ≤ 8 → a < 256 ^ f → gL m 4 7 = lN a → gL m' 4 7 = lN (wf 256 0 s k i a))
  | 0, i, f, a, m, hs, h, e => by
    have ht := h.2.1
    refine ⟨m, Fr.rfl', ?_, rfl, fun _ _ q => q⟩
    rw [Ta_readWord_10_e _ _ _ _ _ kd_4, if_neg (nI_pos (by omega)), if_pos (by rw [n_le (by omega) (by omega)]; omega)]
    rfl
  | k + 1, i, f, a, m, hs, h, e => by
    have ht := h.2.1
    have hc := h.2.2.2 i (by omega)
    have f1 : Fr sTk m (sL m 4 7 (((gL m 4 7) <<< ((8 : Int32).toInt64 &&& 63)) ||| ((nI (s.2 i)).toInt64))) := Fr.rfl'.l rfl
    obtain ⟨m', f2, e2, g2, w2⟩ := Ta_rw_s d k (i + 1) (f + 1) (a * 256 + s.2 i) _ (f1.sk hs) (h.st f1) (by omega)
    refine ⟨m', f1.tr f2, ?_, g2, fun q1 q2 q3 => ?_⟩
    · rw [Ta_readWord_10_e _ _ _ _ _ kd_4, if_neg (nI_pos (by omega)), if_neg (by rw [n_le (by omega) (by omega)]; omega), rf_4_0 hs, bR_s, gl_5, al_5, toI, if_neg (by rw [n_le (by omega) (by omega)]; omega), bR_s, ga_5 (by omega), mJ_u, n_cl (by omega), h.2.2.1 i (by omega), nI_1]
      rw [show i + 1 + k = i + (k + 1) by omega] at e2
      exact e2
    · have h7 : 256 ^ f ≤ 256 ^ 7 := Nat.pow_le_pow_right (by decide) (by omega)
      exact w2 (by omega) (by rw [Nat.pow_succ]; omega) (by rw [gL_w, q3, lN_sh8 (by omega) (by omega)])
theorem Ta_rn_s (d : Nat) {s : eTp} : ∀ k i a m, Sk m → TpM 4 5 s m → i + k ≤ s.1 → (∀ j, i ≤ j → j < i + k → 48 ≤ s.2 j) → gI m 4 6 = nI a → ∃ m', Fr sTk m m' ∧ Ta_readNumber_10 d 4 (nI (i + k)) (nI i) m = Ta_readNumber_55 d 4 (nI (i + k)) (nI (i + k)) m' ∧ gI m' 4 4 = gI m 4 4 ∧ gI m' 4 6 = nI (wf 10 48 s k i a)
  | 0, i, a, m, hs, h, e, hd, ha => by
    have ht := h.2.1
    refine ⟨m, Fr.rfl', ?_, rfl, ha⟩
    rw [Ta_readNumber_10_e _ _ _ _ _ kd_4, if_neg (nI_pos (by omega)), if_pos (by rw [n_le (by omega) (by omega)]; omega)]
    rfl
  | k + 1, i, a, m, hs, h, e, hd, ha => by
    have ht := h.2.1
    have hc := hd i (Nat.le_refl _) (by omega)
    have f1 : Fr sTk m (sI m 4 6 (nI (a * 10 + (s.2 i - 48)))) := Fr.rfl'.i rfl
    obtain ⟨m', f2, e2, g2, w2⟩ := Ta_rn_s d k (i + 1) (a * 10 + (s.2 i - 48)) _ (f1.sk hs) (h.st f1) (by omega) (fun j q1 q2 => hd j (by omega) (by omega)) (gI_w _ _ _ _)
    refine ⟨m', f1.tr f2, ?_, g2, w2⟩
    rw [Ta_readNumber_10_e _ _ _ _ _ kd_4, if_neg (nI_pos (by omega)), if_neg (by rw [n_le (by omega) (by omega)]; omega), rf_4_0 hs, bR_s, gl_5, al_5, toI, if_neg (by rw [n_le (by omega) (by omega)]; omega), bR_s, ga_5 (by omega), mI_u, n_cl (by omega), h.2.2.1 i (by omega), ha, show (10 : Int32) = nI 10 from rfl, nI_mul, nI_add, show (48 : Int32) = nI 48 from rfl, nI_sb (by omega), show a * 10 + s.2 i - 48 = a * 10 + (s.2 i - 48) by omega, nI_1]
    rw [show i + 1 + k = i + (k + 1) by omega] at e2
    exact e2
/-- the class is at the token that is found from b on -/
def TkA (s : eTp) (b : Nat) (m : eM) : Prop := gI m 4 4 = nI (tB s b) ∧ gI m 4 3 = nI (tK s b) ∧ gI m 4 2 = nI (tX s b) ∧ (tK s b = 2 → gL m 4 7 = nm8 (tW s b)) ∧ (tK s b = 3 → gI m 4 6 = nI (tN s b)) ∧ (tK s b = 4 → gI m 4 5 = nI (tS s b))
theorem TkA.fr {s : eTp} {b : Nat} {m m' : eM} {S : Nat → Nat → Bool} (h : TkA s b m) (f : Fr S m m') (hS : ∀ j, 2 ≤ j → j ≤ 7 → S 4 j = false) : TkA s b m' := by
  obtain ⟨h1, h2, h3, h4, h5, h6⟩ := h
  exact ⟨(f.1 _ _ (hS 4 (by decide) (by decide))).trans h1, (f.1 _ _ (hS 3 (by decide) (by decide))).trans h2, (f.1 _ _ (hS 2 (by decide) (by decide))).trans h3, fun q => (f.2.1 _ _ (hS 7 (by decide) (by decide))).trans (h4 q), fun q => (f.1 _ _ (hS 6 (by decide) (by decide))).trans (h5 q), fun q => (f.1 _ _ (hS 5 (by decide) (by decide))).trans (h6 q)⟩
theorem pC_n {n : Nat} (h : n < 65536) (o : oX) : pC (nI n) o = o := if_pos ⟨by rw [show (0 : Int32) = nI 0 from rfl, n_le (by omega) (by omega)]; omega, by rw [show (65535 : Int32) = nI 65535 from rfl, n_le (by omega) (by omega)]; omega⟩
theorem Ta_step_57_s (d : Nat) {s : eTp} {b : Nat} (hb : b ≤ s.1) {m : eM} (hs : Sk m) (h : TpM 4 5 s m) (h4 : gI m 4 4 = nI (tB s b)) {c : Nat} (hc : c < 128) (hc2 : tB s b < s.1 → c = s.2 (tB s b)) : ∃ m', Fr sTk m m' ∧ Ta_step_57 (d + 1) 4 4 (nI c) m = yV m' ∧ TkA s b m' := by
  have ht := h.2.1
  obtain ⟨b1, b2⟩ := tB_le hb
  obtain ⟨m0, hm0⟩ : ∃ m0, m0 = sI m 4 5 (nI c) := ⟨_, rfl⟩
  have f0 : Fr sTk m m0 := by rw [hm0]; exact Fr.rfl'.i rfl
  have hs0 := f0.sk hs
  have h0 := h.st f0
  have g4 : gI m0 4 4 = nI (tB s b) := by rw [hm0]; exact h4
  have g5 : gI m0 4 5 = nI c := by rw [hm0]; exact gI_w _ _ _ _
  have rE : Ta_runEnd d 4 97 122 m0 = yI (nI (tE s b)) m0 := by
    rw [Ta_runEnd_e _ _ _ _ _ kd_4, g4]
    exact Ta_re_s d hs0 h0 (lo := 97) (hi' := 122) (by decide) (by decide) (fun i => ltr_i) _ _ rfl b2
  have rD : Ta_runEnd d 4 48 57 m0 = yI (nI (tD s b)) m0 := by
    rw [Ta_runEnd_e _ _ _ _ _ kd_4, g4]
    exact Ta_re_s d hs0 h0 (lo := 48) (hi' := 57) (by decide) (by decide) (fun i => dig_i) _ _ rfl b2
  have e1 := sk_le s (ltr s) (tB s b)
  have e2 := sk_t (s := s) (p := ltr s) b2
  have e3 := sk_le s (dig s) (tB s b)
  have e4 := sk_t (s := s) (p := dig s) b2
  have e1 : tB s b ≤ tE s b := e1
  have e2 : tE s b ≤ s.1 := e2
  have e3 : tB s b ≤ tD s b := e3
  have e4 : tD s b ≤ s.1 := e4
  rw [Ta_step_57_e _ _ _ _ _ kd_4 kd_4, pC_n (by omega), mI_u, ← hm0, rE, bI_y, rD, bI_y, g4, h0.1]
  by_cases z : tB s b < s.1
  · rw [if_pos (by rw [n_lt (by omega) (by omega)]; exact z)]
    have zn : ¬ s.1 ≤ tB s b := by omega
    by_cases y : ltr s (tB s b) = true
    · have yE : tB s b < tE s b := sk_lt z y
      have hX : tX s b = tE s b := by unfold tX; rw [if_neg zn, if_pos y]
      have hK : tK s b = if tE s b - tB s b ≤ 8 then 2 else 1 := by unfold tK; rw [if_neg zn, if_pos y]
      rw [if_neg (by rw [n_le (by omega) (by omega)]; omega), Ta_readWord_e _ _ _ _ kd_4, mJ_u]
      have f1 : Fr sTk m0 (sL m0 4 7 0) := Fr.rfl'.l rfl
      obtain ⟨m2, f2, a2, g2, w2⟩ := Ta_rw_s d (s := s) (tE s b - tB s b) (tB s b) 0 0 _ (f1.sk hs0) (h0.st f1) (by omega)
      rw [show tB s b + (tE s b - tB s b) = tE s b by omega] at a2
      have g2 : gI m2 4 4 = nI (tB s b) := g2.trans g4
      rw [show gI (sL m0 4 7 0) 4 4 = nI (tB s b) from g4, a2, Ta_readWord_53_e _ _ _ _ _ kd_4, g2, nI_sb (by omega)]
      by_cases x : tE s b - tB s b ≤ 8
      · rw [if_pos x] at hK
        rw [if_neg (by rw [show (8 : Int32) = nI 8 from rfl, n_lt (by omega) (by omega)]; omega), mI_u, mI_u, bV_y]
        refine ⟨_, ((f0.tr f1).tr f2).tr ((Fr.rfl'.i rfl).i rfl), rfl, ?_, ?_, ?_, fun q => ?_, fun q => by omega, fun q => by omega⟩
        · rw [gI_sI, if_neg (by omega), gI_sI, if_neg (by omega), g2]
        · rw [gI_sI, if_neg (by omega), gI_w, hK]; rfl
        · rw [gI_w, hX]
        · show gL m2 4 7 = _
          rw [w2 (by omega) (by decide) (gL_w _ _ _ _), (tW_w8 hK).1]
          rfl
      · rw [if_neg x] at hK
        rw [if_pos (by rw [show (8 : Int32) = nI 8 from rfl, n_lt (by omega) (by omega)]; omega), mI_u, mI_u, bV_y]
        refine ⟨_, ((f0.tr f1).tr f2).tr ((Fr.rfl'.i rfl).i rfl), rfl, ?_, ?_, ?_, fun q => by omega, fun q => by omega, fun q => by omega⟩
        · rw [gI_sI, if_neg (by omega), gI_sI, if_neg (by omega), g2]
        · rw [gI_sI, if_neg (by omega), gI_w, hK]; rfl
        · rw [gI_w, hX]
    · have yE : tE s b = tB s b := skN (fun q => y q.2)
      rw [if_pos (by rw [n_le (by omega) (by omega)]; omega)]
      by_cases x : dig s (tB s b) = true
      · have yD : tB s b < tD s b := sk_lt z x
        have hX : tX s b = tD s b := by unfold tX; rw [if_neg zn, if_neg y, if_pos x]
        have hK : tK s b = if tD s b - tB s b ≤ 4 then 3 else 1 := by unfold tK; rw [if_neg zn, if_neg y, if_pos x]
        rw [if_neg (by rw [n_le (by omega) (by omega)]; omega), Ta_readNumber_e _ _ _ _ kd_4, mI_u]
        have f1 : Fr sTk m0 (sI m0 4 6 0) := Fr.rfl'.i rfl
        obtain ⟨m2, f2, a2, g2, w2⟩ := Ta_rn_s d (s := s) (tD s b - tB s b) (tB s b) 0 _ (f1.sk hs0) (h0.st f1) (by omega) (fun j q1 q2 => (dig_i.mp (sk_all (s := s) (p := dig s) _ (tB s b) rfl j q1 (by unfold tD at q2; have := sk_le s (dig s) (tB s b); omega)).1).1) (gI_w _ _ _ _)
        rw [show tB s b + (tD s b - tB s b) = tD s b by omega] at a2
        have g2 : gI m2 4 4 = nI (tB s b) := g2.trans g4
        rw [show gI (sI m0 4 6 0) 4 4 = nI (tB s b) from g4, a2, Ta_readNumber_55_e _ _ _ _ _ kd_4, g2, nI_sb (by omega)]
        by_cases w : tD s b - tB s b ≤ 4
        · rw [if_pos w] at hK
          rw [if_neg (by rw [show (4 : Int32) = nI 4 from rfl, n_lt (by omega) (by omega)]; omega), mI_u, mI_u, bV_y]
          refine ⟨_, ((f0.tr f1).tr f2).tr ((Fr.rfl'.i rfl).i rfl), rfl, ?_, ?_, ?_, fun q => by omega, fun q => ?_, fun q => by omega⟩
          · rw [gI_sI, if_neg (by omega), gI_sI, if_neg (by omega), g2]
          · rw [gI_sI, if_neg (by omega), gI_w, hK]; rfl
          · rw [gI_w, hX]
          · rw [gI_sI, if_neg (by omega), gI_sI, if_neg (by omega), w2]
            rfl
        · rw [if_neg w] at hK
          rw [if_pos (by rw [show (4 : Int32) = nI 4 from rfl, n_lt (by omega) (by omega)]; omega), mI_u, mI_u, bV_y]
          refine ⟨_, ((f0.tr f1).tr f2).tr ((Fr.rfl'.i rfl).i rfl), rfl, ?_, ?_, ?_, fun q => by omega, fun q => by omega, fun q => by omega⟩
          · rw [gI_sI, if_neg (by omega), gI_sI, if_neg (by omega), g2]
          · rw [gI_sI, if_neg (by omega), gI_w, hK]; rfl
          · rw [gI_w, hX]
      · have yD : tD s b = tB s b := skN (fun q => x q.2)
        have hX : tX s b = tB s b + 1 := by unfold tX; rw [if_neg zn, if_neg y, if_neg x]
        have hK : tK s b = 4 := by unfold tK; rw [if_neg zn, if_neg y, if_neg x]
        rw [if_pos (by rw [n_le (by omega) (by omega)]; omega), mI_u, gI_sI, if_neg (by omega), g4, mI_u, nI_1]
        refine ⟨_, f0.tr ((Fr.rfl'.i rfl).i rfl), rfl, ?_, ?_, ?_, fun q => by omega, fun q => by omega, fun q => ?_⟩
        · rw [gI_sI, if_neg (by omega), gI_sI, if_neg (by omega), g4]
        · rw [gI_sI, if_neg (by omega), gI_w, hK]; rfl
        · rw [gI_w, hX]
        · rw [gI_sI, if_neg (by omega), gI_sI, if_neg (by omega), g5, hc2 z]
          rfl
  · rw [if_neg (by rw [n_lt (by omega) (by omega)]; exact z), mI_u, gI_sI, if_neg (by omega), g4, mI_u]
    have hX : tX s b = tB s b := by unfold tX; rw [if_pos (by omega)]
    have hK : tK s b = 0 := by unfold tK; rw [if_pos (by omega)]
    refine ⟨_, f0.tr ((Fr.rfl'.i rfl).i rfl), rfl, ?_, ?_, ?_, fun q => by omega, fun q => by omega, fun q => by omega⟩
    · rw [gI_sI, if_neg (by omega), gI_sI, if_neg (by omega), g4]
    · rw [gI_sI, if_neg (by omega), gI_w, hK]; rfl
    · rw [gI_w, hX]
theorem Ta_step_s {D : Nat} (hD : 1 ≤ D) {s : eTp} {b : Nat} (hb : b ≤ s.1) {m : eM} (hs : Sk m) (h : TpM 4 5 s m) (h2 : gI m 4 2 = nI b) : ∃ m', Fr sTk m m' ∧ Ta_step D 4 m = yV m' ∧ TkA s b m' := by
  obtain ⟨d, rfl⟩ : ∃ d, D = d + 1 := ⟨D - 1, by omega⟩
  have ht := h.2.1
  obtain ⟨b1, b2⟩ := tB_le hb
  have f1 : Fr sTk m (sI m 4 4 (nI (tB s b))) := Fr.rfl'.i rfl
  have hs1 := f1.sk hs
  have h1 := h.st f1
  have g4 : gI (sI m 4 4 (nI (tB s b))) 4 4 = nI (tB s b) := gI_w _ _ _ _
  rw [Ta_step_e _ _ _ kd_4, h2, Ta_behindBlanks_e _ _ _ _ kd_4, Ta_bb_s d hs h _ _ b rfl hb, bI_y]
  show ∃ m', Fr sTk m m' ∧ (mI m 4 4 (nI (tB s b)) fun m3 => _) = yV m' ∧ TkA s b m'
  rw [mI_u, g4, if_neg (nI_pos (by omega)), h1.1]
  by_cases z : tB s b < s.1
  · have hc := h.2.2.2 (tB s b) z
    rw [if_neg (by rw [n_le (by omega) (by omega)]; omega), rf_4_0 hs1, bR_s, gl_5, al_5, toI, if_neg (by rw [n_le (by omega) (by omega)]; omega), bR_s, ga_5 (by omega), n_cl (by omega), h1.2.2.1 _ z]
    obtain ⟨m', f2, e2, k2⟩ := Ta_step_57_s d hb hs1 h1 g4 hc (fun _ => rfl)
    exact ⟨m', f1.tr f2, e2, k2⟩
  · rw [if_pos (by rw [n_le (by omega) (by omega)]; omega)]
    obtain ⟨m', f2, e2, k2⟩ := Ta_step_57_s d hb hs1 h1 g4 (show 32 < 128 by decide) (fun q => absurd q z)
    exact ⟨m', f1.tr f2, e2, k2⟩
