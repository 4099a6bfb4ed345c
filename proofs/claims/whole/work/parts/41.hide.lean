/-! ===== HIDDEN, HIDE ===== -/
theorem fiG_p (v : eV) (i : Nat) : ∀ k f, f ≤ fiG v i k f ∧ (fiG v i k f < f + k → fiG v i k f < nP v ∧ peB v (fiG v i k f) = peB v i) ∧ ∀ q, f ≤ q → q < fiG v i k f → ¬ (q < nP v ∧ peB v q = peB v i)
  | 0, f => ⟨Nat.le_refl _, fun h => absurd h (Nat.lt_irrefl _), fun q h1 h2 => absurd h2 (Nat.not_lt.mpr h1)⟩
  | k + 1, f => by
    have ih := fiG_p v i k (f + 1)
    by_cases z : f < nP v ∧ peB v f = peB v i
    · have e : fiG v i (k + 1) f = f := if_pos z
      rw [e]
      exact ⟨Nat.le_refl _, fun _ => z, fun q h1 h2 => by omega⟩
    · have e : fiG v i (k + 1) f = fiG v i k (f + 1) := if_neg z
      rw [e]
      refine ⟨by omega, fun h => ih.2.1 (by omega), fun q h1 h2 => ?_⟩
      by_cases y : q = f
      · subst y; exact z
      · exact ih.2.2 q (by omega) h2
theorem fir_p (v : eV) (i : Nat) : (fir v i < i → fir v i < nP v ∧ peB v (fir v i) = peB v i) ∧ ∀ q, q < fir v i → ¬ (q < nP v ∧ peB v q = peB v i) := by
  have h := fiG_p v i i 0
  exact ⟨fun z => h.2.1 (by rw [Nat.zero_add]; exact z), fun q z => h.2.2 q (Nat.zero_le _) z⟩
theorem fir_be (v : eV) (i : Nat) : peB v (fir v i) = peB v i := by
  have h := fir_p v i
  have hl := fir_le v i
  by_cases z : fir v i < i
  · exact (h.1 z).2
  · rw [show fir v i = i by omega]
theorem fir_e {v : eV} {a b : Nat} (ha : a = 6 ∨ a < nP v) (hb : b = 6 ∨ b < nP v) (hP : nP v ≤ 6) : fir v a = fir v b ↔ peB v a = peB v b := by
  constructor
  · intro h; rw [← fir_be v a, h, fir_be]
  · intro h
    have key : ∀ x y, (x = 6 ∨ x < nP v) → (y = 6 ∨ y < nP v) → x ≤ y → peB v x = peB v y → fir v x = fir v y := by
      intro x y hx hy hxy h
      have px := fir_p v x
      have py := fir_p v y
      have lx := fir_le v x
      have ly := fir_le v y
      rcases (by omega : x = y ∨ (x < y ∧ x < nP v)) with e | ⟨e1, e2⟩
      · rw [e]
      · have h1 : ¬ x < fir v y := fun z => py.2 x z ⟨e2, h⟩
        have h2 := py.1 (by omega)
        have h3 : ¬ fir v y < fir v x := fun z => px.2 _ z ⟨h2.1, h2.2.trans h.symm⟩
        have h4 : ¬ fir v x < fir v y := fun z => by
          by_cases y2 : fir v x < x
          · have := px.1 y2
            exact py.2 _ z ⟨this.1, this.2.trans h⟩
          · omega
        omega
    rcases Nat.le_total a b with z | z
    · exact key a b ha hb z h
    · exact (key b a hb ha z h.symm).symm
/-- the groups, said straight -/
theorem gr_t {v : eV} {g : Nat → Nat} {c mn n : Nat} {x : Int64} {m : eM} (hp : ∀ w, ptN v g c mn w n < 7) (h : ∀ q, q < 7 → ∀ w, w < 64 → (tb (gL m 48 q) w = true ↔ ∃ i, i < 7 ∧ fir v i = q ∧ pB v g c mn n x i w)) : ∀ q, q < 7 → gL m 48 q = mk fun w => tb x w && decide (fir v (ptN v g c mn w n) = q) := fun q hq => mk_e fun w hw => by
  rw [Bool.eq_iff_iff, h q hq w hw, Bool.and_eq_true, decide_eq_true_iff]
  constructor
  · rintro ⟨i, a, b, c1, c2⟩
    rw [c2]
    exact ⟨c1, b⟩
  · rintro ⟨a, b⟩
    exact ⟨_, hp w, b, a, rfl⟩
def wtB (v : eV) (r : Nat → Nat) (n k w : Nat) : Bool := decide (beN v (ptN v r (wtC v k) (wtM v k) w n) = beN v (ptN v r (wtC v k) (wtM v k) (tru v) n))
def isN (v : eV) (r : Nat → Nat) (n w : Nat) : Nat → Bool
  | 0 => tb (com v) w
  | k + 1 => isN v r n w k && wtB v r n k w
def hidM (v : eV) (r : Nat → Nat) (n : Nat) : Nat → Int64
  | 0 => com v
  | k + 1 => hidM v r n k &&& mk fun w => decide (w < 2 ^ nF v) && wtB v r n k w
theorem hidM_t {v : eV} (hv : Va v) (r : Nat → Nat) (n : Nat) {w : Nat} (hw : w < 64) : ∀ k, tb (hidM v r n k) w = (decide (w < 2 ^ nF v) && isN v r n w k)
  | 0 => by
    show tb (com v) w = (decide (w < 2 ^ nF v) && tb (com v) w)
    by_cases z : w < 2 ^ nF v
    · rw [decide_eq_true z]; rfl
    · rw [hv.cw (by omega), Bool.and_false]
  | k + 1 => by
    show tb (hidM v r n k &&& _) w = (decide (w < 2 ^ nF v) && (isN v r n w k && wtB v r n k w))
    rw [t_and, hidM_t hv r n hw k, t_mk _ hw]
    cases decide (w < 2 ^ nF v) <;> simp
def hidV (v : eV) (s set : Nat) : Bool := decide (hidM v (rN v set (nO v)).1 (rN v set (nO v)).2 (nWt v) = 0 ∨ ¬ hidM v (rN v set (nO v)).1 (rN v set (nO v)).2 (nWt v) &&& soV v s = 0)
/-- a saying that is told as a lie by cock 0's law -/
def plV (v : eV) (s : Int32) (l : Nat) : Bool := inN s (nS v) && lieV v s.toNatClampNeg l (tru v)
def sp_hidden (v : eV) (s o : Int32) : Int32 := if plV v s (lawV v 0) = true then (if inN o (2 ^ nO v) = true then bb (hidV v s.toNatClampNeg o.toNatClampNeg) else -1) else -1
def sp_hide (v : eV) (s w : Int32) : Int32 := if plV v s (lawV v 0) = true then (if inN w 2 = true then sos (few (hidV v s.toNatClampNeg) (2 ^ nO v)) w else -1) else -1
theorem O_le {v : eV} (hv : Va v) : 2 ^ nO v ≤ 64 := Nat.pow_le_pow_right (n := 2) (j := 6) (by decide) hv.o
/-! the reference -/
theorem Mo_isToldLie_s {v : eV} (hv : Va v) {m : eM} (h : Mp v m) {D : Nat} (hD : 3 ≤ D) (s : Int32) {l : Nat} (hl : l < 2) : Mo_isToldLie D 208 s (nI l) m = yI (bb (plV v s l)) m := by
  obtain ⟨d, rfl⟩ : ∃ d, D = d + 3 := ⟨D - 3, by omega⟩
  have hs := h.sk
  have hnS := hv.s
  have htr := hv.tr
  have hW := W_le hv
  rw [Mo_isToldLie_e _ _ _ _ _ kd_208, mp_s h, inN_t]
  unfold plV
  by_cases z : inN s (nS v) = true
  · rw [if_pos z, z, Bool.true_and]
    obtain ⟨k, hk, rfl⟩ := inN_of (by omega) z
    rw [mp_t h, Mo_isLie_s hv h hs (by omega) (Sx.of hv h (Or.inl hk)) hl (by omega), br0, yI_if, n_cl (by omega)]
  · rw [if_neg z]
    rw [Bool.not_eq_true] at z
    rw [z]; rfl
theorem Rw.lt {v : eV} {r : Nat → Nat} {n : Nat} {m : eM} (h : Rw v r n m) (c mn w : Nat) : ptN v r c mn w n = 6 ∨ ptN v r c mn w n < nP v := ptN_lt fun k hk => (h.2.2 k hk).2.1.2.2.2.2.2.1
theorem Mo_isHidden_39_s {v : eV} (hv : Va v) {m : eM} (h : Mp v m) {r : Nat → Nat} {n : Nat} (hr : Rw v r n m) (d : Nat) (x1 x2 x3 : Int32) {w : Nat} (hw : w < 2 ^ nF v) : ∀ j k, k + j = nWt v → ∃ x6, Mo_isHidden_39 (d + 3) 208 x1 x2 x3 (nI w) (bb (isN v r n w k)) (nI k) m = Mo_isHidden_111 (d + 3) 208 x1 x2 x3 (nI w) (bb (isN v r n w (nWt v))) x6 m
  | 0, k, e => by
    have hnF := hv.f; have hnPl := hv.pl; have hnP := hv.p; have hnC := hv.cm; have hnS := hv.s; have hnO := hv.o; have hnL := hv.l; have hnW := hv.wt; have hW := W_le hv; have hW0 := @W_pos v; have htr := hv.tr
    have hs := h.sk
    refine ⟨nI k, ?_⟩
    rw [Mo_isHidden_39_e _ _ _ _ _ _ _ _ _ kd_208, mp_w h, if_pos (by rw [n_le (by omega) (by omega)]; omega), show nWt v = k by omega]
  | j + 1, k, e => by
    have hnF := hv.f; have hnPl := hv.pl; have hnP := hv.p; have hnC := hv.cm; have hnS := hv.s; have hnO := hv.o; have hnL := hv.l; have hnW := hv.wt; have hW := W_le hv; have hW0 := @W_pos v; have htr := hv.tr
    have hs := h.sk
    have hk4 : k < 4 := by omega
    rw [Mo_isHidden_39_e _ _ _ _ _ _ _ _ _ kd_208, mp_w h, if_neg (by rw [n_le (by omega) (by omega)]; omega)]
    simp only [bb_0]
    by_cases z : isN v r n w k = true
    · rw [if_neg (by rw [z]; decide)]
      obtain ⟨a1, a2⟩ := hv.wa (show k < nWt v by omega)
      obtain ⟨x6, ih⟩ := Mo_isHidden_39_s hv h hr d x1 x2 x3 hw j (k + 1) (by omega)
      refine ⟨x6, ?_⟩
      have b1 := be_lt hv (hr.lt (wtC v k) (wtM v k) w)
      have b2 := be_lt hv (hr.lt (wtC v k) (wtM v k) (tru v))
      rw [rf_208_59 hs, bR_s, ga_250 hk4, rf_208_60 hs, bR_s, ga_251 hk4, n_cl (by omega), mp_wc h hk4, mp_wm h hk4, Mo_bearingAt_s hv h hr (by omega) a1 (by omega) (by omega), bI_y, rf_208_59 hs, bR_s, ga_250 hk4, rf_208_60 hs, bR_s, ga_251 hk4, mp_t h, mp_wc h hk4, mp_wm h hk4, Mo_bearingAt_s hv h hr (by omega) a1 (by omega) (by omega), bI_y, nI_1, ← ih]
      have es : isN v r n w (k + 1) = (isN v r n w k && wtB v r n k w) := rfl
      rw [es, z, Bool.true_and]
      unfold wtB
      by_cases y : beN v (ptN v r (wtC v k) (wtM v k) w n) = beN v (ptN v r (wtC v k) (wtM v k) (tru v) n)
      · rw [if_neg (fun q => q (by rw [y])), decide_eq_true y]; rfl
      · rw [if_pos (by rw [n_eq (by omega) (by omega)]; exact y), decide_eq_false y]; rfl
    · refine ⟨nI k, ?_⟩
      rw [Bool.not_eq_true] at z
      have key : ∀ i, isN v r n w (k + i) = false := by
        intro i
        induction i with
        | zero => exact z
        | succ i ih2 =>
          show (isN v r n w (k + i) && _) = false
          rw [ih2]; rfl
      rw [if_pos z, show nWt v = k + (j + 1) by omega, key, z]
theorem Mo_isHidden_10_s {v : eV} (hv : Va v) {m : eM} (h : Mp v m) {r : Nat → Nat} {n : Nat} (hr : Rw v r n m) (d : Nat) {s : Nat} (hs0 : s < nS v) (x2 : Int32) : ∀ j w w5 w6, w + j = 2 ^ nF v → (∀ u, u < w → ¬ (isN v r n u (nWt v) = true ∧ tb (soV v s) u = true)) → ∀ any : Bool, (any = true ↔ ∃ u, u < w ∧ isN v r n u (nWt v) = true) → Mo_isHidden_10 (d + 3) 208 (nI s) x2 (bb any) (nI w) w5 w6 m = yI (bb (decide (hidM v r n (nWt v) = 0 ∨ ¬ hidM v r n (nWt v) &&& soV v s = 0))) m
  | 0, w, w5, w6, e, hno, any, ha => by
    have hnF := hv.f; have hnPl := hv.pl; have hnP := hv.p; have hnC := hv.cm; have hnS := hv.s; have hnO := hv.o; have hnL := hv.l; have hnW := hv.wt; have hW := W_le hv; have hW0 := @W_pos v; have htr := hv.tr
    have hs := h.sk
    rw [Mo_isHidden_10_e _ _ _ _ _ _ _ _ _ kd_208]
    simp (disch := first | assumption | omega) only [bR_s, rf_208_10, gz_210, n_cl0, mp_f, shl1, n_le, bb_0]
    rw [if_pos (by omega)]
    have hso : hidM v r n (nWt v) &&& soV v s = 0 := (eq0_iff _).mpr fun u hu => by
      rw [t_and, hidM_t hv r n hu]
      by_cases z : u < 2 ^ nF v
      · rw [decide_eq_true z, Bool.true_and]
        have := hno u (by omega)
        by_cases y : isN v r n u (nWt v) = true
        · rw [y, Bool.true_and]
          cases q : tb (soV v s) u
          · rfl
          · exact absurd ⟨y, q⟩ this
        · rw [Bool.not_eq_true] at y; rw [y]; rfl
      · rw [decide_eq_false z]; rfl
    by_cases z : any = true
    · obtain ⟨u, hu, hi⟩ := ha.mp z
      have hne : ¬ hidM v r n (nWt v) = 0 := fun q => by
        have h6 : u < 64 := by omega
        have := hidM_t hv r n h6 (nWt v)
        rw [q, t_0, hi, decide_eq_true (by omega)] at this
        cases this
      rw [if_pos (by rw [z]; decide), decide_eq_false (fun q => q.elim hne fun y => y hso)]
      rfl
    · have hze : hidM v r n (nWt v) = 0 := (eq0_iff _).mpr fun u hu => by
        rw [hidM_t hv r n hu]
        by_cases y : u < 2 ^ nF v
        · cases q : isN v r n u (nWt v)
          · rw [Bool.and_false]
          · exact absurd (ha.mpr ⟨u, by omega, q⟩) z
        · rw [decide_eq_false y]; rfl
      rw [Bool.not_eq_true] at z
      rw [if_neg (by rw [z]; decide), decide_eq_true (Or.inl hze)]
      rfl
  | j + 1, w, w5, w6, e, hno, any, ha => by
    have hnF := hv.f; have hnPl := hv.pl; have hnP := hv.p; have hnC := hv.cm; have hnS := hv.s; have hnO := hv.o; have hnL := hv.l; have hnW := hv.wt; have hW := W_le hv; have hW0 := @W_pos v; have htr := hv.tr
    have hs := h.sk
    have hw6 : w < 64 := by omega
    obtain ⟨x6, e39⟩ := Mo_isHidden_39_s hv h hr d (nI s) x2 (bb any) (show w < 2 ^ nF v by omega) (nWt v) 0 (by omega)
    have e39 : Mo_isHidden_39 (d + 3) 208 (nI s) x2 (bb any) (nI w) (bb (tb (com v) w)) (0 : Int32) m = Mo_isHidden_111 (d + 3) 208 (nI s) x2 (bb any) (nI w) (bb (isN v r n w (nWt v))) x6 m := e39
    rw [Mo_isHidden_10_e _ _ _ _ _ _ _ _ _ kd_208]
    simp (disch := first | assumption | omega) only [bR_s, rf_208_10, gz_210, n_cl0, mp_f, shl1, n_le, rf_208_19, gz_219, mp_com, Mo_isIn_s _ _ hw6, bI_y]
    rw [if_neg (by omega)]
    refine e39.trans ?_
    rw [Mo_isHidden_111_e _ _ _ _ _ _ _ _ _ kd_208]
    simp only [bb_0]
    by_cases z : isN v r n w (nWt v) = true
    · rw [if_pos (by rw [z]; decide), rf_208_47 hs, bR_s, ga_239 (by omega), n_cl (by omega), mp_so h (by omega), Mo_isIn_s _ _ hw6, br0]
      by_cases y : tb (soV v s) w = true
      · rw [if_pos y]
        have hne : ¬ hidM v r n (nWt v) &&& soV v s = 0 := fun q => by
          have := (eq0_iff _).mp q w hw6
          rw [t_and, hidM_t hv r n hw6, z, y, decide_eq_true (by omega)] at this
          cases this
        rw [decide_eq_true (Or.inr hne)]
        rfl
      · rw [if_neg y, nI_1]
        refine Mo_isHidden_10_s hv h hr d hs0 x2 j (w + 1) _ _ (by omega) (fun u hu => ?_) true ?_
        · by_cases q : u = w
          · subst q; exact fun a => y a.2
          · exact hno u (by omega)
        · exact ⟨fun _ => ⟨w, by omega, z⟩, fun _ => rfl⟩
    · rw [if_neg (fun q => q (by rwa [Bool.not_eq_true] at z)), nI_1]
      refine Mo_isHidden_10_s hv h hr d hs0 x2 j (w + 1) _ _ (by omega) (fun u hu => ?_) any ?_
      · by_cases q : u = w
        · subst q; exact fun a => z a.1
        · exact hno u (by omega)
      · rw [ha]
        constructor
        · rintro ⟨u, a, b⟩; exact ⟨u, by omega, b⟩
        · rintro ⟨u, a, b⟩
          by_cases q : u = w
          · subst q; exact absurd b z
          · exact ⟨u, by omega, b⟩
theorem Mo_isHidden_s {v : eV} (hv : Va v) {D : Nat} (hD : 5 ≤ D) {m : eM} (h : Mp v m) {s set : Nat} (hs0 : s < nS v) (hset : set < 64) : ∃ m', Fr sQ m m' ∧ Mo_isHidden D 208 (nI s) (nI set) m = yI (bb (hidV v s set)) m' := by
  obtain ⟨d, rfl⟩ : ∃ d, D = d + 5 := ⟨D - 5, by omega⟩
  obtain ⟨m1, f1, e1, r1⟩ := Mo_rows_s hv (show 4 ≤ d + 4 by omega) hset h
  refine ⟨m1, f1, ?_⟩
  rw [Mo_isHidden_e _ _ _ _ _ kd_208, e1, bV_y]
  exact Mo_isHidden_10_s hv (h.q f1) r1 (d + 2) hs0 (nI set) (2 ^ nF v) 0 eU eU (by omega) (fun u hu => absurd hu (Nat.not_lt_zero u)) false ⟨fun q => (by cases q), fun ⟨u, a, _⟩ => absurd a (Nat.not_lt_zero u)⟩
theorem Mo_hidden_s {v : eV} (hv : Va v) {D : Nat} (hD : 6 ≤ D) {m : eM} (h : Mp v m) (s o : Int32) : ∃ m', Fr sQ m m' ∧ Mo_hidden D 208 s o m = yI (sp_hidden v s o) m' := by
  obtain ⟨d, rfl⟩ : ∃ d, D = d + 6 := ⟨D - 6, by omega⟩
  have h0 := th0 h
  have hs := h0.sk
  have hnO := hv.o
  have hnS := hv.s
  have hO := O_le hv
  have hla := hv.la (j := 0) (by decide)
  have e2 : ∀ (A B : oX), (if o < 0 then A else if o < nI (2 ^ nO v) then B else A) = if inN o (2 ^ nO v) = true then B else A := fun A B => by
    rw [← inN_t]
    by_cases q : o < 0
    · rw [if_pos q, if_pos q]
    · rw [if_neg q, if_neg q]
      by_cases y : nI (2 ^ nO v) ≤ o
      · rw [if_pos y, if_neg (by rw [Int32.lt_iff_toInt_lt]; rw [Int32.le_iff_toInt_le] at y; omega)]
      · rw [if_neg y, if_pos (by rw [Int32.lt_iff_toInt_lt]; rw [Int32.le_iff_toInt_le] at y; omega)]
  rw [Mo_hidden_e _ _ _ _ _ kd_208, mI_u, rf_208_16 hs, bR_s, gz_216, n_cl0, mp_law h0 (by decide), Mo_isToldLie_s hv h0 (by omega) s (by omega), br0, mp_o h0, shl1 _ (by omega), e2]
  unfold sp_hidden
  by_cases z1 : plV v s (lawV v 0) = true
  · rw [if_pos z1, if_pos z1]
    by_cases z2 : inN o (2 ^ nO v) = true
    · rw [if_pos z2, if_pos z2]
      obtain ⟨u, hu, rfl⟩ := inN_of (by omega) z2
      have z3 := z1
      unfold plV at z3
      rw [Bool.and_eq_true] at z3
      obtain ⟨k, hk, rfl⟩ := inN_of (by omega) z3.1
      obtain ⟨m1, f1, e1⟩ := Mo_isHidden_s hv (show 5 ≤ d + 5 by omega) h0 hk (show u < 64 by omega)
      refine ⟨m1, f0.tr f1, ?_⟩
      rw [e1, br0, n_cl (by omega), n_cl (by omega), yI_if]
    · rw [if_neg z2, if_neg z2]
      exact ⟨_, f0, rfl⟩
  · rw [if_neg z1, if_neg z1]
    exact ⟨_, f0, rfl⟩
theorem Mo_hide_35_s {v : eV} (hv : Va v) (d : Nat) {s : Nat} (hs0 : s < nS v) (w : Int32) : ∀ j n m, Mp v m → n + j = 2 ^ nO v → ∃ m', Fr sQ m m' ∧ Mo_hide_35 (d + 6) 208 (nI s) w (oI (few (hidV v s) n)) (nI n) m = yI (sos (few (hidV v s) (2 ^ nO v)) w) m'
  | 0, n, m, h, e => by
    have hO := O_le hv
    have hnO := hv.o
    refine ⟨m, Fr.rfl', ?_⟩
    rw [Mo_hide_35_e _ _ _ _ _ _ _ kd_208, mp_o h, shl1 _ (by omega), if_pos (by rw [n_le (by omega) (by omega)]; omega), show 2 ^ nO v = n by omega]
    have hb := few_b (g := hidV v s) (n := n) (N := 4096) (by omega)
    revert hb
    cases few (hidV v s) n with
    | none => intro _; rfl
    | some b =>
      intro hb
      have := hb b rfl
      show (if 0 ≤ nI b then _ else _) = _
      rw [if_pos (nI_pos' (by omega))]
      exact bits_what (d + 5) w this m
  | j + 1, n, m, h, e => by
    have hO := O_le hv
    have hnO := hv.o
    have hb := few_b (g := hidV v s) (n := n) (N := 4096) (by omega)
    obtain ⟨m1, f1, e1⟩ := Mo_isHidden_s hv (show 5 ≤ d + 5 by omega) h hs0 (show n < 64 by omega)
    rw [Mo_hide_35_e _ _ _ _ _ _ _ kd_208, mp_o h, shl1 _ (by omega), if_neg (by rw [n_le (by omega) (by omega)]; omega), nI_1]
    -- asked or not
    by_cases y : fwr n (few (hidV v s) n) = true
    · obtain ⟨m2, f2, e2⟩ := Mo_hide_35_s hv d hs0 w j (n + 1) m1 (h.q f1) (by omega)
      refine ⟨m2, f1.tr f2, ?_⟩
      rw [← e2]
      refine (pick_s (d + 5) (show n < 4096 by omega) hb m (fun m7 => bI (Mo_isHidden (d + 5) 208 (nI s) (nI n) m7) fun v10 m9 => if v10 = 0 then (Mo_hide_35 (d + 5 + 1) 208 (nI s) w (oI (few (hidV v s) n)) (nI (n + 1)) m9) else (Mo_hide_35 (d + 5 + 1) 208 (nI s) w (nI n) (nI (n + 1)) m9)) (fun m7 => Mo_hide_35 (d + 5 + 1) 208 (nI s) w (oI (few (hidV v s) n)) (nI (n + 1)) m7)).trans ?_
      rw [if_pos y, e1, br0, few_s, y, Bool.and_true]
      by_cases z : hidV v s n = true
      · rw [if_pos z, if_pos z]; rfl
      · rw [if_neg z, if_neg z]
    · obtain ⟨m2, f2, e2⟩ := Mo_hide_35_s hv d hs0 w j (n + 1) m h (by omega)
      refine ⟨m2, f2, ?_⟩
      rw [← e2]
      refine (pick_s (d + 5) (show n < 4096 by omega) hb m (fun m7 => bI (Mo_isHidden (d + 5) 208 (nI s) (nI n) m7) fun v10 m9 => if v10 = 0 then (Mo_hide_35 (d + 5 + 1) 208 (nI s) w (oI (few (hidV v s) n)) (nI (n + 1)) m9) else (Mo_hide_35 (d + 5 + 1) 208 (nI s) w (nI n) (nI (n + 1)) m9)) (fun m7 => Mo_hide_35 (d + 5 + 1) 208 (nI s) w (oI (few (hidV v s) n)) (nI (n + 1)) m7)).trans ?_
      rw [if_neg y, few_s]
      rw [Bool.not_eq_true] at y
      rw [y, Bool.and_false]
      rfl
theorem Mo_hide_s {v : eV} (hv : Va v) {D : Nat} (hD : 6 ≤ D) {m : eM} (h : Mp v m) (s w : Int32) : ∃ m', Fr sQ m m' ∧ Mo_hide D 208 s w m = yI (sp_hide v s w) m' := by
  obtain ⟨d, rfl⟩ : ∃ d, D = d + 6 := ⟨D - 6, by omega⟩
  have h0 := th0 h
  have hs := h0.sk
  have hnS := hv.s
  have hla := hv.la (j := 0) (by decide)
  rw [Mo_hide_e _ _ _ _ _ kd_208, mI_u, rf_208_16 hs, bR_s, gz_216, n_cl0, mp_law h0 (by decide), Mo_isToldLie_s hv h0 (by omega) s (by omega), br0, Mo_within_1, br1]
  unfold sp_hide
  by_cases z1 : plV v s (lawV v 0) = true
  · rw [if_pos z1, if_pos z1]
    by_cases z2 : inN w 2 = true
    · rw [if_pos z2, if_pos z2]
      have z3 := z1
      unfold plV at z3
      rw [Bool.and_eq_true] at z3
      obtain ⟨k, hk, rfl⟩ := inN_of (by omega) z3.1
      obtain ⟨m1, f1, e1⟩ := Mo_hide_35_s hv d hk w (2 ^ nO v) 0 _ h0 (by omega)
      refine ⟨m1, f0.tr f1, ?_⟩
      rw [n_cl (by omega)]
      exact e1
    · rw [if_neg z2, if_neg z2]
      exact ⟨_, f0, rfl⟩
  · rw [if_neg z1, if_neg z1]
    exact ⟨_, f0, rfl⟩
