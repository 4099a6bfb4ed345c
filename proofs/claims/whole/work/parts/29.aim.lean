/-! ===== the class: talks and looks that hold a view ===== -/
def stT (t : Nat) : Prop := 3 ≤ t ∧ kk t = (7, 6) ∧ kk (t + 1) = (20, 31) ∧ kk (t + 2) = (20, 31) ∧ kk (t + 3) = (21, 31) ∧ kk (t + 4) = (21, 31) ∧ kk (t + 5) = (21, 31)
def TkR (t : Nat) (m : eM) : Prop := gR m t 0 = some (t + 1) ∧ gR m t 1 = some (t + 2) ∧ gR m t 2 = some (t + 3) ∧ gR m t 3 = some (t + 4) ∧ gR m t 4 = some (t + 5)
/-- a talk at t: n sayings, the i-th is saying g i of the view -/
def TkP (v : eV) (t n : Nat) (g : Nat → Nat) (m : eM) : Prop := stT t ∧ TkR t m ∧ gI m t 5 = nI n ∧ n ≤ 31 ∧ ∀ i, i < n → gI m (t + 1) i = nI (who v (g i)) ∧ gI m (t + 2) i = nI (whn v (g i)) ∧ gL m (t + 3) i = soV v (g i) ∧ gL m (t + 4) i = lieM v (g i) 0 ∧ gL m (t + 5) i = lieM v (g i) 1 ∧ who v (g i) < nP v ∧ whn v (g i) < 1440
theorem TkP.kd {v : eV} {t n : Nat} {g : Nat → Nat} {m : eM} (h : TkP v t n g m) : kd t = 7 := kd_of h.1.2.1
theorem TkP.fr {v : eV} {t n : Nat} {g : Nat → Nat} {m m' : eM} {S : Nat → Nat → Bool} (h : TkP v t n g m) (f : Fr S m m') (hS : ∀ a j, t ≤ a → a ≤ t + 5 → S a j = false) : TkP v t n g m' := by
  obtain ⟨h1, ⟨r0, r1, r2, r3, r4⟩, h2, h3, h4⟩ := h
  refine ⟨h1, ⟨(f.r _ _).trans r0, (f.r _ _).trans r1, (f.r _ _).trans r2, (f.r _ _).trans r3, (f.r _ _).trans r4⟩, (f.1 _ _ (hS _ _ (by omega) (by omega))).trans h2, h3, fun i hi => ?_⟩
  obtain ⟨a, b, c, d, e, q⟩ := h4 i hi
  exact ⟨(f.1 _ _ (hS _ _ (by omega) (by omega))).trans a, (f.1 _ _ (hS _ _ (by omega) (by omega))).trans b, (f.2.1 _ _ (hS _ _ (by omega) (by omega))).trans c, (f.2.1 _ _ (hS _ _ (by omega) (by omega))).trans d, (f.2.1 _ _ (hS _ _ (by omega) (by omega))).trans e, q⟩
theorem Tk_isIn_s {v : eV} {t n : Nat} {g : Nat → Nat} {m : eM} (h : TkP v t n g m) (d : Nat) (x : Int32) : Tk_isIn d t x m = yI (bb (inN x n)) m := by
  have hn := h.2.2.2.1
  rw [Tk_isIn_e _ _ _ _ h.kd, h.2.2.1]
  unfold inN
  by_cases z1 : x < 0
  · rw [if_pos z1, decide_eq_true z1]; rfl
  · rw [if_neg z1, decide_eq_false z1]
    by_cases z2 : nI n ≤ x
    · rw [if_pos z2, decide_eq_true z2]; rfl
    · rw [if_neg z2, decide_eq_false z2, if_neg]
      · rfl
      · rcases pk_ix x (n := n) (by omega) with y | y | ⟨j, hj, rfl⟩
        · exact absurd y z1
        · exact absurd y z2
        · rw [l_31, n_le (by omega) (by omega)]; omega
theorem Tk_minute_s {v : eV} {t n : Nat} {g : Nat → Nat} {m : eM} (h : TkP v t n g m) {D : Nat} (hD : 1 ≤ D) {i : Nat} (hi : i < n) : Tk_minute D t (nI i) m = yI (nI (whn v (g i))) m := by
  obtain ⟨d, rfl⟩ : ∃ d, D = d + 1 := ⟨D - 1, by omega⟩
  have hn := h.2.2.2.1
  rw [Tk_minute_e _ _ _ _ h.kd, Tk_isIn_s h, br0, inN_n (by omega) (by omega), if_pos (decide_eq_true hi)]
  obtain ⟨⟨h0, k0, k1, k2, k3, k4, k5⟩, ⟨r0, r1, r2, r3, r4⟩, -, -, h4⟩ := h
  rw [r1, bR_s, pk_gl k2 (by decide), pk_len k2 (by omega), toI, if_neg (by rw [n_le (by omega) (by omega)]; omega), bR_s, pk_ga k2 (by omega) (by omega) (by decide), n_cl (by omega), (h4 i hi).2.1]
theorem Tk_speaker_s {v : eV} {t n : Nat} {g : Nat → Nat} {m : eM} (h : TkP v t n g m) {D : Nat} (hD : 1 ≤ D) {i : Nat} (hi : i < n) : Tk_speaker D t (nI i) m = yI (nI (who v (g i))) m := by
  obtain ⟨d, rfl⟩ : ∃ d, D = d + 1 := ⟨D - 1, by omega⟩
  have hn := h.2.2.2.1
  rw [Tk_speaker_e _ _ _ _ h.kd, Tk_isIn_s h, br0, inN_n (by omega) (by omega), if_pos (decide_eq_true hi)]
  obtain ⟨⟨h0, k0, k1, k2, k3, k4, k5⟩, ⟨r0, r1, r2, r3, r4⟩, -, -, h4⟩ := h
  rw [r0, bR_s, pk_gl k1 (by decide), pk_len k1 (by omega), toI, if_neg (by rw [n_le (by omega) (by omega)]; omega), bR_s, pk_ga k1 (by omega) (by omega) (by decide), n_cl (by omega), (h4 i hi).1]
theorem Tk_so_s {v : eV} {t n : Nat} {g : Nat → Nat} {m : eM} (h : TkP v t n g m) {D : Nat} (hD : 1 ≤ D) {i : Nat} (hi : i < n) : Tk_so D t (nI i) m = yL (soV v (g i)) m := by
  obtain ⟨d, rfl⟩ : ∃ d, D = d + 1 := ⟨D - 1, by omega⟩
  have hn := h.2.2.2.1
  rw [Tk_so_e _ _ _ _ h.kd, Tk_isIn_s h, br0, inN_n (by omega) (by omega), if_pos (decide_eq_true hi)]
  obtain ⟨⟨h0, k0, k1, k2, k3, k4, k5⟩, ⟨r0, r1, r2, r3, r4⟩, -, -, h4⟩ := h
  rw [r2, bR_s, pk_gl k3 (by decide), pk_len k3 (by omega), toI, if_neg (by rw [n_le (by omega) (by omega)]; omega), bR_s, pk_ga k3 (by omega) (by omega) (by decide), n_cl (by omega), (h4 i hi).2.2.1]
theorem Tk_lies_s {v : eV} {t n : Nat} {g : Nat → Nat} {m : eM} (h : TkP v t n g m) {D : Nat} (hD : 1 ≤ D) {i l : Nat} (hi : i < n) (hl : l < 2) : Tk_lies D t (nI i) (nI l) m = yL (lieM v (g i) l) m := by
  obtain ⟨d, rfl⟩ : ∃ d, D = d + 1 := ⟨D - 1, by omega⟩
  have hn := h.2.2.2.1
  rw [Tk_lies_e _ _ _ _ _ h.kd, Tk_isIn_s h, br0, inN_n (by omega) (by omega), if_pos (decide_eq_true hi)]
  obtain ⟨⟨h0, k0, k1, k2, k3, k4, k5⟩, ⟨r0, r1, r2, r3, r4⟩, -, -, h4⟩ := h
  obtain ⟨-, -, -, q0, q1, -⟩ := h4 i hi
  simp only [r3, r4, bR_s, pk_gl k4 (show 20 ≤ 21 ∧ 21 ≤ 24 by decide), pk_gl k5 (show 20 ≤ 21 ∧ 21 ≤ 24 by decide), pk_len k4 (show 0 < t by omega), pk_len k5 (show 0 < t by omega), toI, pk_ga k4 (show 0 < t by omega) (show i < 31 by omega) (show 31 ≤ 100000 by decide), pk_ga k5 (show 0 < t by omega) (show i < 31 by omega) (show 31 ≤ 100000 by decide), n_cl (show i < 2147483648 by omega), q0, q1, n_le (show 31 < 2147483648 by decide) (show i < 2147483648 by omega), n_lt (show i < 2147483648 by omega) (show 31 < 2147483648 by decide), n_eq0 (show l < 2147483648 by omega)]
  rw [if_neg (by omega), if_pos (by omega)]
  rcases (by omega : l = 0 ∨ l = 1) with z | z
  · subst z; rfl
  · subst z; rfl
theorem Tk_lastLiar_8_s {v : eV} (hv : Va v) {t n p : Nat} {g : Nat → Nat} {m : eM} (h : TkP v t n g m) (hP : Pp v p m) (d : Nat) {c mn w : Nat} (hc : c < 2) (hm : mn < 2000) (hw : w < 64) : ∀ k, k ≤ n → Tk_lastLiar_8 (d + 2) t p (nI c) (nI mn) (nI w) (nI k - 1) m = yI (pI (ptN v g c mn w k)) m
  | 0, _ => by
    rw [Tk_lastLiar_8_e _ _ _ _ _ _ _ _ h.kd hP.kd, n_neg1, if_pos (by decide)]
    rfl
  | k + 1, hk => by
    have hn := h.2.2.2.1
    have hlat := hv.lt hc
    have hlaw := hv.la hc
    have hp := hv.p
    obtain ⟨-, -, -, -, -, hwho, hwhn⟩ := h.2.2.2.2 k (by omega)
    have ih := Tk_lastLiar_8_s hv h hP d hc hm hw k (by omega)
    rw [Tk_lastLiar_8_e _ _ _ _ _ _ _ _ h.kd hP.kd, nI_pred, if_neg (nI_pos (by omega)), Tk_minute_s h (by omega) (by omega), bI_y, Pa_late_s hP (by omega) hc, bI_y, nI_add, Pa_law_s hP (by omega) hc, bI_y, Tk_lies_s h (by omega) (by omega) (by omega), bL_y, LC_holds_s _ _ hw, br0, Tk_speaker_s h (by omega) (by omega), bI_y, addm1, ih, ptN_s]
    by_cases z : whn v (g k) + lat v c ≤ mn
    · rw [if_neg (by rw [n_lt (by omega) (by omega)]; omega)]
      by_cases y : tb (lieM v (g k) (lawV v c)) w = true
      · rw [if_pos y, if_pos ⟨z, y⟩]
        unfold pI
        rw [if_neg (by omega)]
      · rw [if_neg y, if_neg (fun q => y q.2)]
    · rw [if_pos (by rw [n_lt (by omega) (by omega)]; omega), if_neg (fun q => z q.1)]
theorem Tk_lastLiar_s {v : eV} (hv : Va v) {t n p : Nat} {g : Nat → Nat} {m : eM} (h : TkP v t n g m) (hP : Pp v p m) {D : Nat} (hD : 2 ≤ D) {c mn w : Nat} (hc : c < 2) (hm : mn < 2000) (hw : w < 64) : Tk_lastLiar D t p (nI c) (nI mn) (nI w) m = yI (pI (ptN v g c mn w n)) m := by
  obtain ⟨d, rfl⟩ : ∃ d, D = d + 2 := ⟨D - 2, by omega⟩
  rw [Tk_lastLiar_e _ _ _ _ _ _ _ h.kd hP.kd, h.2.2.1]
  exact Tk_lastLiar_8_s hv h hP d hc hm hw n (Nat.le_refl _)
def stK (l : Nat) : Prop := 3 ≤ l ∧ kk l = (3, 5) ∧ kk (l + 1) = (20, 12) ∧ kk (l + 2) = (20, 12) ∧ kk (l + 3) = (20, 12) ∧ kk (l + 4) = (20, 12)
def LkR (l : Nat) (m : eM) : Prop := gR m l 0 = some (l + 1) ∧ gR m l 1 = some (l + 2) ∧ gR m l 2 = some (l + 3) ∧ gR m l 3 = some (l + 4)
def LkP (l n : Nat) (fc fm ff ft : Nat → Nat) (m : eM) : Prop := stK l ∧ LkR l m ∧ gI m l 4 = nI n ∧ n ≤ 12 ∧ ∀ i, i < n → gI m (l + 1) i = nI (fc i) ∧ gI m (l + 2) i = nI (fm i) ∧ gI m (l + 3) i = nI (ff i) ∧ gI m (l + 4) i = nI (ft i)
theorem LkP.kd {l n : Nat} {fc fm ff ft : Nat → Nat} {m : eM} (h : LkP l n fc fm ff ft m) : kd l = 3 := kd_of h.1.2.1
theorem LkP.fr {l n : Nat} {fc fm ff ft : Nat → Nat} {m m' : eM} {S : Nat → Nat → Bool} (h : LkP l n fc fm ff ft m) (f : Fr S m m') (hS : ∀ a j, l ≤ a → a ≤ l + 4 → S a j = false) : LkP l n fc fm ff ft m' := by
  obtain ⟨h1, ⟨r0, r1, r2, r3⟩, h2, h3, h4⟩ := h
  refine ⟨h1, ⟨(f.r _ _).trans r0, (f.r _ _).trans r1, (f.r _ _).trans r2, (f.r _ _).trans r3⟩, (f.1 _ _ (hS _ _ (by omega) (by omega))).trans h2, h3, fun i hi => ?_⟩
  obtain ⟨a, b, c, d⟩ := h4 i hi
  exact ⟨(f.1 _ _ (hS _ _ (by omega) (by omega))).trans a, (f.1 _ _ (hS _ _ (by omega) (by omega))).trans b, (f.1 _ _ (hS _ _ (by omega) (by omega))).trans c, (f.1 _ _ (hS _ _ (by omega) (by omega))).trans d⟩
theorem Lo_isIn_s {l n : Nat} {fc fm ff ft : Nat → Nat} {m : eM} (h : LkP l n fc fm ff ft m) (d : Nat) {a i : Nat} (hi : i < n) (ha : kk a = (20, 12)) (h0 : 0 < a) : Lo_isIn d l a (nI i) m = yI 1 m := by
  have hn := h.2.2.2.1
  rw [Lo_isIn_e _ _ _ _ _ h.kd, h.2.2.1, if_neg (nI_pos (by omega)), if_neg (by rw [n_le (by omega) (by omega)]; omega), gl_t (by rw [kd_of ha]; decide) (by rw [kd_of ha]; decide), al_t h0, (kk_l ha).2, toI, if_neg (by rw [n_le (by omega) (by omega)]; omega)]
theorem Lo_cock_s {l n : Nat} {fc fm ff ft : Nat → Nat} {m : eM} (h : LkP l n fc fm ff ft m) {D : Nat} (hD : 1 ≤ D) {i : Nat} (hi : i < n) : Lo_cock D l (nI i) m = yI (nI (fc i)) m := by
  obtain ⟨d, rfl⟩ : ∃ d, D = d + 1 := ⟨D - 1, by omega⟩
  obtain ⟨⟨h0, k0, k1, k2, k3, k4⟩, ⟨r0, r1, r2, r3⟩, -, hn, h4⟩ := id h
  rw [Lo_cock_e _ _ _ _ h.kd, r0, bR_s, Lo_isIn_s h _ hi k1 (by omega), bI_y, if_neg (by decide), r0, bR_s, pk_ga k1 (by omega) (by omega) (by decide), n_cl (by omega), (h4 i hi).1]
theorem Lo_minute_s {l n : Nat} {fc fm ff ft : Nat → Nat} {m : eM} (h : LkP l n fc fm ff ft m) {D : Nat} (hD : 1 ≤ D) {i : Nat} (hi : i < n) : Lo_minute D l (nI i) m = yI (nI (fm i)) m := by
  obtain ⟨d, rfl⟩ : ∃ d, D = d + 1 := ⟨D - 1, by omega⟩
  obtain ⟨⟨h0, k0, k1, k2, k3, k4⟩, ⟨r0, r1, r2, r3⟩, -, hn, h4⟩ := id h
  rw [Lo_minute_e _ _ _ _ h.kd, r1, bR_s, Lo_isIn_s h _ hi k2 (by omega), bI_y, if_neg (by decide), r1, bR_s, pk_ga k2 (by omega) (by omega) (by decide), n_cl (by omega), (h4 i hi).2.1]
theorem Lo_from_s {l n : Nat} {fc fm ff ft : Nat → Nat} {m : eM} (h : LkP l n fc fm ff ft m) {D : Nat} (hD : 1 ≤ D) {i : Nat} (hi : i < n) : Lo_from D l (nI i) m = yI (nI (ff i)) m := by
  obtain ⟨d, rfl⟩ : ∃ d, D = d + 1 := ⟨D - 1, by omega⟩
  obtain ⟨⟨h0, k0, k1, k2, k3, k4⟩, ⟨r0, r1, r2, r3⟩, -, hn, h4⟩ := id h
  rw [Lo_from_e _ _ _ _ h.kd, r2, bR_s, Lo_isIn_s h _ hi k3 (by omega), bI_y, if_neg (by decide), r2, bR_s, pk_ga k3 (by omega) (by omega) (by decide), n_cl (by omega), (h4 i hi).2.2.1]
theorem Lo_to_s {l n : Nat} {fc fm ff ft : Nat → Nat} {m : eM} (h : LkP l n fc fm ff ft m) {D : Nat} (hD : 1 ≤ D) {i : Nat} (hi : i < n) : Lo_to D l (nI i) m = yI (nI (ft i)) m := by
  obtain ⟨d, rfl⟩ : ∃ d, D = d + 1 := ⟨D - 1, by omega⟩
  obtain ⟨⟨h0, k0, k1, k2, k3, k4⟩, ⟨r0, r1, r2, r3⟩, -, hn, h4⟩ := id h
  rw [Lo_to_e _ _ _ _ h.kd, r3, bR_s, Lo_isIn_s h _ hi k4 (by omega), bI_y, if_neg (by decide), r3, bR_s, pk_ga k4 (by omega) (by omega) (by decide), n_cl (by omega), (h4 i hi).2.2.2]
/-! ===== Aim ===== -/
def sA (a _ : Nat) : Bool := a == 47 || a == 48
theorem sA_n {a j : Nat} (h1 : a ≠ 47) (h2 : a ≠ 48) : sA a j = false := by unfold sA; simp [h1, h2]
theorem Ai_add_47 (d : Nat) {i : Nat} (hi : i < 7) (y : Int64) (m : eM) : Ai_add d 47 (nI i) y m = yV (sL m 47 i (gL m 47 i ||| y)) := by
  rw [Ai_add_e, if_neg (nI_pos (by omega)), gl_47, al_47, toI, if_neg (by rw [n_le (by omega) (by omega)]; omega), ga_47 hi, gw_47 hi, n_cl (by omega)]
  rfl
theorem Ai_add_48 (d : Nat) {i : Nat} (hi : i < 7) (y : Int64) (m : eM) : Ai_add d 48 (nI i) y m = yV (sL m 48 i (gL m 48 i ||| y)) := by
  rw [Ai_add_e, if_neg (nI_pos (by omega)), gl_48, al_48, toI, if_neg (by rw [n_le (by omega) (by omega)]; omega), ga_48 hi, gw_48 hi, n_cl (by omega)]
  rfl
/-- the bearing of one; of nobody 0 -/
def peB (v : eV) (i : Nat) : Nat := if i < nP v then bea v (hom v i) else 0
theorem Pa_bearing_p {v : eV} (hv : Va v) {p : Nat} {m : eM} (h : Pp v p m) (d : Nat) {k : Nat} (hk : k < 1000) : Pa_bearing d p (nI k) m = yI (nI (peB v k)) m := Pa_bearing_s hv h d hk
theorem pe_lt {v : eV} (hv : Va v) (i : Nat) : peB v i < 360 := by
  unfold peB
  by_cases z : i < nP v
  · rw [if_pos z]; exact hv.be (hv.ho z)
  · rw [if_neg z]; decide
/-- the first one who has the same bearing -/
def fiG (v : eV) (i : Nat) : Nat → Nat → Nat
  | 0, f => f
  | k + 1, f => if f < nP v ∧ peB v f = peB v i then f else fiG v i k (f + 1)
def fir (v : eV) (i : Nat) : Nat := fiG v i i 0
theorem fiG_le (v : eV) (i : Nat) : ∀ k f, fiG v i k f ≤ f + k
  | 0, f => Nat.le_refl _
  | k + 1, f => by
    unfold fiG
    split
    · omega
    · have := fiG_le v i k (f + 1); omega
theorem fir_le (v : eV) (i : Nat) : fir v i ≤ i := by have := fiG_le v i i 0; unfold fir; omega
theorem Ai_gather_37_s {v : eV} (hv : Va v) {p : Nat} {m : eM} (h : Pp v p m) (hs : Sk m) (d : Nat) {i : Nat} (hi : i < 7) : ∀ k f, f + k = i → ∃ w, Ai_gather_37 (d + 1) 46 p (nI i) (nI f) m = Ai_gather_26 (d + 1) 46 p (nI (i + 1)) w (sL m 48 (fiG v i k f) (gL m 48 (fiG v i k f) ||| gL m 47 i))
  | 0, f, e => by
    refine ⟨.int (nI f), ?_⟩
    rw [Ai_gather_37_e _ _ _ _ _ _ kd_46 h.kd, if_pos (by rw [n_le (by omega) (by omega)]; omega), rf_46_1 hs, bR_s, rf_46_0 hs, bR_s, ga_47 hi, n_cl (by omega), Ai_add_48 _ (by omega), bV_y, nI_1]
    rfl
  | k + 1, f, e => by
    have hp := hv.p
    obtain ⟨w, ih⟩ := Ai_gather_37_s hv h hs d hi k (f + 1) (by omega)
    have e1 : Ai_gather_37 (d + 1) 46 p (nI i) (nI f) m = if f < nP v then (if peB v f = peB v i then Ai_gather_26 (d + 1) 46 p (nI (i + 1)) (.int (nI f)) (sL m 48 f (gL m 48 f ||| gL m 47 i)) else Ai_gather_37 (d + 1) 46 p (nI i) (nI (f + 1)) m) else Ai_gather_37 (d + 1) 46 p (nI i) (nI (f + 1)) m := by
      rw [Ai_gather_37_e _ _ _ _ _ _ kd_46 h.kd, if_neg (by rw [n_le (by omega) (by omega)]; omega), Pa_isPerson_s h, br0, inN_n (by omega) (by omega), Pa_bearing_p hv h _ (by omega), bI_y, Pa_bearing_p hv h _ (by omega), bI_y, nI_1, nI_1, rf_46_1 hs, bR_s, rf_46_0 hs, bR_s, ga_47 hi, n_cl (by omega), Ai_add_48 _ (by omega), bV_y]
      by_cases z : f < nP v
      · rw [if_pos (decide_eq_true z), if_pos z]
        have b1 := pe_lt hv f
        have b2 := pe_lt hv i
        by_cases y : peB v f = peB v i
        · rw [if_pos (by rw [y]), if_pos y]
        · rw [if_neg (by rw [n_eq (by omega) (by omega)]; exact y), if_neg y]
      · rw [if_neg (by simpa using z), if_neg z]
    by_cases z : f < nP v ∧ peB v f = peB v i
    · refine ⟨.int (nI f), ?_⟩
      have e2 : fiG v i (k + 1) f = f := if_pos z
      rw [e1, e2, if_pos z.1, if_pos z.2]
    · refine ⟨w, ?_⟩
      have e2 : fiG v i (k + 1) f = fiG v i k (f + 1) := if_neg z
      rw [e1, e2, ← ih]
      by_cases y : f < nP v
      · rw [if_pos y, if_neg fun q => z ⟨y, q⟩]
      · rw [if_neg y]
def sG (a _ : Nat) : Bool := a == 48
theorem sG_n {a j : Nat} (h : a ≠ 48) : sG a j = false := by unfold sG; simp [h]
/-- the groups of what points at the first k -/
theorem Ai_gather_26_s {v : eV} (hv : Va v) {p : Nat} (d : Nat) : ∀ j k w3 m, Pp v p m → Sk m → (p + 11 < 48 ∨ 48 < p) → k + j = 7 → (∀ q, q < 7 → ∀ w, w < 64 → (tb (gL m 48 q) w = true ↔ ∃ i, i < k ∧ fir v i = q ∧ tb (gL m 47 i) w = true)) → ∃ m', Fr sG m m' ∧ Ai_gather_26 (d + 1) 46 p (nI k) w3 m = yV m' ∧ ∀ q, q < 7 → ∀ w, w < 64 → (tb (gL m' 48 q) w = true ↔ ∃ i, i < 7 ∧ fir v i = q ∧ tb (gL m 47 i) w = true)
  | 0, k, w3, m, h, hs, hp, e, hG => by
    refine ⟨m, Fr.rfl', ?_, fun q hq w hw => by rw [hG q hq w hw, show k = 7 by omega]⟩
    rw [Ai_gather_26_e _ _ _ _ _ _ kd_46 h.kd, rf_46_0 hs, bR_s, gl_47, al_47, toI, if_pos (by rw [n_le (by omega) (by omega)]; omega)]
  | j + 1, k, w3, m, h, hs, hp, e, hG => by
    have hk : k < 7 := by omega
    have hfk := fir_le v k
    obtain ⟨w1, e1⟩ := Ai_gather_37_s hv h hs d hk k 0 (by omega)
    have f : Fr sG m (sL m 48 (fir v k) (gL m 48 (fir v k) ||| gL m 47 k)) := Fr.rfl'.l rfl
    obtain ⟨m', f2, e2, h2⟩ := Ai_gather_26_s hv d j (k + 1) w1 (sL m 48 (fir v k) (gL m 48 (fir v k) ||| gL m 47 k)) (h.fr f fun a _ h1 h2 => sG_n (by omega)) hs hp (by omega) (fun q hq w hw => by
      have h47 : ∀ i, gL (sL m 48 (fir v k) (gL m 48 (fir v k) ||| gL m 47 k)) 47 i = gL m 47 i := fun i => by rw [gL_sL, if_neg (fun z => by omega)]
      simp only [h47]
      rw [gL_sL]
      by_cases z : q = fir v k
      · rw [if_pos ⟨rfl, z⟩, t_or, Bool.or_eq_true, ← z, hG q hq w hw]
        constructor
        · rintro (⟨i, a, b, c⟩ | y)
          · exact ⟨i, by omega, b, c⟩
          · exact ⟨k, by omega, z.symm, y⟩
        · rintro ⟨i, a, b, c⟩
          by_cases y : i = k
          · subst y; exact Or.inr c
          · exact Or.inl ⟨i, by omega, b, c⟩
      · rw [if_neg (fun y => z y.2), hG q hq w hw]
        constructor
        · rintro ⟨i, a, b, c⟩
          exact ⟨i, by omega, b, c⟩
        · rintro ⟨i, a, b, c⟩
          by_cases y : i = k
          · subst y; exact absurd b.symm z
          · exact ⟨i, by omega, b, c⟩)
    refine ⟨m', f.tr f2, ?_, fun q hq w hw => ?_⟩
    · rw [Ai_gather_26_e _ _ _ _ _ _ kd_46 h.kd, rf_46_0 hs, bR_s, gl_47, al_47, toI, if_neg (by rw [n_le (by omega) (by omega)]; omega)]
      exact e1.trans e2
    · rw [h2 q hq w hw]
      have h47 : ∀ i, gL (sL m 48 (fir v k) (gL m 48 (fir v k) ||| gL m 47 k)) 47 i = gL m 47 i := fun i => by rw [gL_sL, if_neg (fun z => by omega)]
      simp only [h47]
theorem Ai_gather_2_s {p : Nat} (hp4 : kd p = 4) (d : Nat) : ∀ j k m, Sk m → k + j = 7 → (∀ q, q < k → gL m 48 q = 0) → ∃ m', Fr sG m m' ∧ Ai_gather_2 (d + 1) 46 p (nI k) m = Ai_gather_26 (d + 1) 46 p (nI 0) eU m' ∧ ∀ q, q < 7 → gL m' 48 q = 0
  | 0, k, m, hs, e, hG => by
    refine ⟨m, Fr.rfl', ?_, fun q hq => hG q (by omega)⟩
    rw [Ai_gather_2_e _ _ _ _ _ kd_46 hp4, rf_46_1 hs, bR_s, gl_48, al_48, toI, if_pos (by rw [n_le (by omega) (by omega)]; omega)]
    rfl
  | j + 1, k, m, hs, e, hG => by
    have f : Fr sG m (sL m 48 k 0) := Fr.rfl'.l rfl
    obtain ⟨m', f2, e2, h2⟩ := Ai_gather_2_s hp4 d j (k + 1) (sL m 48 k 0) hs (by omega) (fun q hq => by
      rw [gL_sL]
      by_cases z : q = k
      · rw [if_pos ⟨rfl, z⟩]
      · rw [if_neg (fun y => z y.2)]; exact hG q (by omega))
    refine ⟨m', f.tr f2, ?_, h2⟩
    rw [Ai_gather_2_e _ _ _ _ _ kd_46 hp4, rf_46_1 hs, bR_s, gl_48, al_48, toI, if_neg (by rw [n_le (by omega) (by omega)]; omega), bR_s, gw_48 (by omega), n_cl (by omega), mJ_u, nI_1]
    exact e2
