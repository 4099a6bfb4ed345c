/-! ===== the class reads a parish ===== -/
def PC (s : eTp) (p : Nat) (u : eV) (b : Nat) (m : eM) : Prop := (Sk m ∧ Ss m ∧ TpM 4 5 s m) ∧ TkA s b m ∧ gI m 4 8 = 0 ∧ (Pp u p m ∧ pOK p ∧ ∀ c, c < 2 → gI m (p + 9) c = nI (tol u c)) ∧ Vu u ∧ b ≤ s.1
def sPr (p a j : Nat) : Bool := decide (a = 4 ∧ 2 ≤ j ∧ j ≤ 8 ∨ 6 ≤ a ∧ a ≤ 8 ∨ p ≤ a ∧ a ≤ p + 11)
theorem sPr_n {p a j : Nat} (h : ¬ (a = 4 ∧ 2 ≤ j ∧ j ≤ 8 ∨ 6 ≤ a ∧ a ≤ 8 ∨ p ≤ a ∧ a ≤ p + 11)) : sPr p a j = false := decide_eq_false h
theorem Fr.hrP {p : Nat} {m m' : eM} (f : Fr sHr m m') : Fr (sPr p) m m' := f.up fun a j q => by
  have := of_decide_eq_false q
  exact sHr_n (by omega) (by omega) (by omega) (by omega)
theorem PC.sk {s : eTp} {p b : Nat} {u : eV} {m : eM} (h : PC s p u b m) : Sk m := h.1.1
theorem PC.pp {s : eTp} {p b : Nat} {u : eV} {m : eM} (h : PC s p u b m) : Pp u p m := h.2.2.2.1.1
theorem PC.kd {s : eTp} {p b : Nat} {u : eV} {m : eM} (h : PC s p u b m) : kd p = 4 := h.pp.kd
theorem PC.ch {s : eTp} {p b : Nat} {u : eV} {m : eM} (h : PC s p u b m) : ∀ i, i < s.1 → s.2 i < 128 := h.1.2.2.2.2.2
theorem PC.mv {s : eTp} {p b b' : Nat} {u : eV} {m m' : eM} (h : PC s p u b m) (f : Fr sHr m m') (hk : TkA s b' m') (h8 : gI m' 4 8 = 0) (hb : b' ≤ s.1) : PC s p u b' m' := by
  obtain ⟨⟨hs, hS, ht⟩, -, -, ⟨h1, h2, h3⟩, hV, -⟩ := h
  have nn : ∀ a j, p ≤ a → a ≤ p + 11 → sHr a j = false := fun a j q1 q2 => sHr_n (by unfold pOK at h2; omega) (by unfold pOK at h2; omega) (by unfold pOK at h2; omega) (by unfold pOK at h2; omega)
  exact ⟨⟨f.sk hs, hS.fr f (fun _ => rfl) (fun _ => rfl), (f.1 _ _ rfl).trans ht.1, ht.2.1, fun i hi => (f.1 _ _ rfl).trans (ht.2.2.1 i hi), ht.2.2.2⟩, hk, h8, ⟨h1.fr f nn, h2, fun c hc => (f.1 _ _ (nn _ _ (by omega) (by omega))).trans (h3 c hc)⟩, hV, hb⟩
theorem PC.st {s : eTp} {p b : Nat} {u : eV} {m : eM} (h : PC s p u b m) {D : Nat} (hD : 1 ≤ D) : ∃ m', Fr (sPr p) m m' ∧ Ta_step D 4 m = yV m' ∧ PC s p u (tX s b) m' := by
  obtain ⟨m', f, e, k⟩ := Ta_step_s hD (tX_le h.2.2.2.2.2).2 h.1.1 h.1.2.2 h.2.1.2.2.1
  exact ⟨m', f.tkF.foH.hrP, e, h.mv f.tkF.foH k ((f.1 _ _ (sTk_n (by omega))).trans h.2.2.1) (tX_le h.2.2.2.2.2).2⟩
/-- R does what o says -/
def reC (s : eTp) (p : Nat) (u : eV) (m : eM) (R : oX) (o : Sum Nat Nat) : Prop := (∀ b', o = .inr b' → ∃ m', Fr (sPr p) m m' ∧ R = yI 1 m' ∧ PC s p u b' m') ∧ (∀ e, o = .inl e → ∃ m', Fr (sPr p) m m' ∧ R = yI 0 m' ∧ gI m' 4 8 = nI e)
theorem PC.bad {s : eTp} {p b : Nat} {u : eV} {m : eM} (h : PC s p u b m) (k d : Nat) : Ta_wrong d 4 (nI k) m = yI 0 (sI m 4 8 (nI (er s b k))) ∧ Fr (sPr p) m (sI m 4 8 (nI (er s b k))) := ⟨Ta_wrong_s h.2.1 h.2.2.1 k d, Fr.rfl'.i (decide_eq_true (by omega))⟩
theorem PC.W {s : eTp} {p b : Nat} {u : eV} {m : eM} (h : PC s p u b m) {D : Nat} (hD : 2 ≤ D) {n : Nat} (hn : n < 27 ^ 8) : reC s p u m (Ta_takeWord D 4 (nm8 n) m) (rqW s n b) := by
  obtain ⟨d, rfl⟩ : ∃ d, D = d + 1 := ⟨D - 1, by omega⟩
  rw [Ta_takeWord_e _ _ _ _ kd_4, Ta_isWord_s h.2.1 hn, bI_y]
  unfold rqW
  by_cases z : tkW s b n = true
  · obtain ⟨m', f, e, c⟩ := h.st (D := d) (by omega)
    rw [z, if_pos bt0, e, bV_y, if_pos rfl]
    exact ⟨fun b' q => (by cases q; exact ⟨m', f, rfl, c⟩), fun e q => (by cases q)⟩
  · rw [Bool.eq_false_iff.mpr z, if_neg nbf0, show (1 : Int32) = nI 1 from rfl, (h.bad 1 d).1, bI_y, yB0, if_neg (by decide)]
    exact ⟨fun b' q => (by cases q), fun e q => (by cases q; exact ⟨_, (h.bad 1 d).2, rfl, gI_w _ _ _ _⟩)⟩
theorem PC.S {s : eTp} {p b : Nat} {u : eV} {m : eM} (h : PC s p u b m) {D : Nat} (hD : 2 ≤ D) {n : Nat} (hn : n < 128) : reC s p u m (Ta_takeSign D 4 (nI n) m) (rqS s n b) := by
  obtain ⟨d, rfl⟩ : ∃ d, D = d + 1 := ⟨D - 1, by omega⟩
  rw [Ta_takeSign_e _ _ _ _ kd_4, Ta_isSign_s h.ch h.2.1 hn, bI_y]
  unfold rqS
  by_cases z : tkS s b n = true
  · obtain ⟨m', f, e, c⟩ := h.st (D := d) (by omega)
    rw [z, if_pos bt0, e, bV_y, if_pos rfl]
    exact ⟨fun b' q => (by cases q; exact ⟨m', f, rfl, c⟩), fun e q => (by cases q)⟩
  · rw [Bool.eq_false_iff.mpr z, if_neg nbf0, show (1 : Int32) = nI 1 from rfl, (h.bad 1 d).1, bI_y, yB0, if_neg (by decide)]
    exact ⟨fun b' q => (by cases q), fun e q => (by cases q; exact ⟨_, (h.bad 1 d).2, rfl, gI_w _ _ _ _⟩)⟩
theorem PC.N {s : eTp} {p b : Nat} {u : eV} {m : eM} (h : PC s p u b m) {D : Nat} (hD : 1 ≤ D) {n : Nat} (hn : n < 10000) : (∀ b', rqN s n b = .inr b' → Ta_numberUpTo D 4 (nI n) m = yI 1 m) ∧ (∀ e, rqN s n b = .inl e → ∃ m', Fr (sPr p) m m' ∧ Ta_numberUpTo D 4 (nI n) m = yI 0 m' ∧ gI m' 4 8 = nI e) := by
  obtain ⟨d, rfl⟩ : ∃ d, D = d + 1 := ⟨D - 1, by omega⟩
  have hk := tK_le s b
  rw [Ta_numberUpTo_e _ _ _ _ kd_4, h.2.1.2.1]
  unfold rqN
  by_cases z : tK s b = 3
  · have hl := tN_lt h.ch z
    rw [if_pos (show nI (tK s b) = 3 by rw [z]; rfl), h.2.1.2.2.2.2.1 z, if_pos z]
    by_cases y : tN s b ≤ n
    · rw [if_pos (show nI (tN s b) ≤ nI n by rw [n_le (by omega) (by omega)]; exact y), if_pos y]
      exact ⟨fun b' q => rfl, fun e q => (by cases q)⟩
    · rw [if_neg (show ¬ nI (tN s b) ≤ nI n by rw [n_le (by omega) (by omega)]; exact y), if_neg y, show (4 : Int32) = nI 4 from rfl, (h.bad 4 d).1, bI_y, if_pos rfl]
      exact ⟨fun b' q => (by cases q), fun e q => (by cases q; exact ⟨_, (h.bad 4 d).2, rfl, gI_w _ _ _ _⟩)⟩
  · rw [if_neg (show ¬ nI (tK s b) = 3 by rw [show (3 : Int32) = nI 3 from rfl, n_eq (by omega) (by omega)]; exact z), if_neg z, show (1 : Int32) = nI 1 from rfl, (h.bad 1 d).1, bI_y, yB0]
    exact ⟨fun b' q => (by cases q), fun e q => (by cases q; exact ⟨_, (h.bad 1 d).2, rfl, gI_w _ _ _ _⟩)⟩
/-! names -/
theorem PC.fF {s : eTp} {p b : Nat} {u : eV} {m : eM} (h : PC s p u b m) {w : Nat} (hw : w < 27 ^ 8) (d : Nat) : Pa_find d (p + 1) (nI (nF u)) (nm8 w) m = yI (pO (fnd (nam u) (nF u) w)) m := Pa_find_s d h.pp.1.2.2.1 (by omega) h.2.2.2.2.1.1.1 hw (fun j hj => (h.2.2.2.2.1.2.1.1 j hj).2) (fun j hj => (h.pp.2.2.2.1 j hj).1)
theorem PC.fP {s : eTp} {p b : Nat} {u : eV} {m : eM} (h : PC s p u b m) {w : Nat} (hw : w < 27 ^ 8) (d : Nat) : Pa_find d (p + 3) (nI (nPl u)) (nm8 w) m = yI (pO (fnd (plc u) (nPl u) w)) m := Pa_find_s d h.pp.1.2.2.2.2.1 (by omega) h.2.2.2.2.1.1.2.1 hw (fun j hj => (h.2.2.2.2.1.2.1.2.1 j hj).2) (fun j hj => (h.pp.2.2.2.2.1 j hj).1)
theorem PC.fQ {s : eTp} {p b : Nat} {u : eV} {m : eM} (h : PC s p u b m) {w : Nat} (hw : w < 27 ^ 8) (d : Nat) : Pa_find d (p + 5) (nI (nP u)) (nm8 w) m = yI (pO (fnd (prs u) (nP u) w)) m := Pa_find_s d h.pp.1.2.2.2.2.2.2.1 (by omega) h.2.2.2.2.1.1.2.2.1 hw (fun j hj => (h.2.2.2.2.1.2.1.2.2 j hj).2.2) (fun j hj => (h.pp.2.2.2.2.2.1 j hj).1)
theorem pO_n {N : Nat → Nat} {n w : Nat} (hn : n ≤ 6) : (pO (fnd N n w) = -1) = ((fnd N n w).isSome = false) := by
  cases z : fnd N n w with
  | none => exact propext ⟨fun _ => rfl, fun _ => rfl⟩
  | some k =>
    have := fnd_lt z
    refine propext ⟨fun q => ?_, fun q => by cases q⟩
    exact absurd q (pO_ne (by omega))
theorem PC.td {s : eTp} {p b : Nat} {u : eV} {m : eM} (h : PC s p u b m) {w : Nat} (hw : w < 27 ^ 8) {D : Nat} (hD : 1 ≤ D) : Pa_isTold D p (nm8 w) m = yI (bb (isTd u w)) m := by
  obtain ⟨d, rfl⟩ : ∃ d, D = d + 1 := ⟨D - 1, by omega⟩
  obtain ⟨r4, r5, r6, r7, r8, -⟩ := h.pp.2.1
  obtain ⟨c0, c1, c2, c3⟩ := h.pp.2.2.1
  obtain ⟨v1, v2, v3, v4⟩ := h.2.2.2.2.1.1
  rw [Pa_isTold_e _ _ _ _ h.kd, r4, bR_s, c0, h.fF hw, bI_y, r6, bR_s, c1, h.fP hw, bI_y, r8, bR_s, c2, h.fQ hw, bI_y]
  unfold isTd
  have p1 := pO_n (N := nam u) (w := w) v1
  have p2 := pO_n (N := plc u) (w := w) v2
  have p3 := pO_n (N := prs u) (w := w) v3
  cases z1 : (fnd (nam u) (nF u) w).isSome with
  | true => rw [if_pos (by rw [p1, z1]; decide)]; rfl
  | false =>
    rw [if_neg (fun q => q (by rw [p1, z1]))]
    cases z2 : (fnd (plc u) (nPl u) w).isSome with
    | true => rw [if_pos (by rw [p2, z2]; decide)]; rfl
    | false =>
      rw [if_neg (fun q => q (by rw [p2, z2]))]
      cases z3 : (fnd (prs u) (nP u) w).isSome with
      | true => rw [if_neg (by rw [p3, z3]; decide)]; rfl
      | false => rw [if_pos (by rw [p3, z3])]; rfl
theorem PC.sl {s : eTp} {p b : Nat} {u : eV} {m : eM} (h : PC s p u b m) {D : Nat} (hD : 3 ≤ D) {n : Nat} (hn : n ≤ 6) : reC s p u m (Pa_startLine D p 4 (nI n) (6 : Int32) m) (stL s u b n) := by
  obtain ⟨d, rfl⟩ : ∃ d, D = d + 1 := ⟨D - 1, by omega⟩
  rw [Pa_startLine_e _ _ _ _ _ _ h.kd kd_4]
  unfold stL
  by_cases z : 6 ≤ n
  · rw [if_neg (by rw [show (6 : Int32) = nI 6 from rfl, n_lt (by omega) (by omega)]; omega), if_pos z, show (5 : Int32) = nI 5 from rfl, (h.bad 5 d).1, bI_y, yB0]
    exact ⟨fun b' q => (by cases q), fun e q => (by cases q; exact ⟨_, (h.bad 5 d).2, rfl, gI_w _ _ _ _⟩)⟩
  · obtain ⟨m1, f1, e1, c1⟩ := h.st (D := d) (by omega)
    rw [if_pos (by rw [show (6 : Int32) = nI 6 from rfl, n_lt (by omega) (by omega)]; omega), if_neg z, e1, bV_y, Ta_isName_s c1.1.2.1 c1.2.1, bI_y]
    by_cases y : tkN s (tX s b) = true
    · have hk := (tkN_k y).1
      rw [y, if_pos bt0, if_pos rfl, Ta_word_s c1.2.1 hk, bL_y, c1.td (tW_lt hk) (by omega), bI_y]
      by_cases x : isTd u (tW s (tX s b)) = true
      · rw [x, if_neg bt0, if_pos rfl, show (3 : Int32) = nI 3 from rfl, (c1.bad 3 d).1, bI_y, if_pos rfl]
        exact ⟨fun b' q => (by cases q), fun e q => (by cases q; exact ⟨_, f1.tr (c1.bad 3 d).2, rfl, gI_w _ _ _ _⟩)⟩
      · rw [Bool.eq_false_iff.mpr x, if_pos bf0, if_neg (by decide)]
        exact ⟨fun b' q => (by cases q; exact ⟨m1, f1, rfl, c1⟩), fun e q => (by cases q)⟩
    · rw [Bool.eq_false_iff.mpr y, if_neg nbf0, if_neg (by decide), show (1 : Int32) = nI 1 from rfl, (c1.bad 1 d).1, bI_y, yB0]
      exact ⟨fun b' q => (by cases q), fun e q => (by cases q; exact ⟨_, f1.tr (c1.bad 1 d).2, rfl, gI_w _ _ _ _⟩)⟩
/-! what is added -/
def sPp (p a _ : Nat) : Bool := decide (p ≤ a ∧ a ≤ p + 11)
theorem PC.ad {s : eTp} {p b : Nat} {u u' : eV} {m m' : eM} (h : PC s p u b m) (f : Fr (sPp p) m m') (hP : Pp u' p m') (ht : ∀ c, c < 2 → gI m' (p + 9) c = nI (tol u' c)) (hV : Vu u') : PC s p u' b m' ∧ Fr (sPr p) m m' := by
  obtain ⟨⟨hs, hS, htp⟩, hk, h8, ⟨h1, h2, h3⟩, -, hb⟩ := h
  have nn : ∀ a j, a < 9 → sPp p a j = false := fun a j q => decide_eq_false (by unfold pOK at h2; omega)
  exact ⟨⟨⟨f.sk hs, hS.fr f (fun _ => nn _ _ (by decide)) (fun _ => nn _ _ (by decide)), (f.1 _ _ (nn _ _ (by decide))).trans htp.1, htp.2.1, fun i hi => (f.1 _ _ (nn _ _ (by decide))).trans (htp.2.2.1 i hi), htp.2.2.2⟩, hk.fr f (fun j _ _ => nn _ _ (by decide)), (f.1 _ _ (nn _ _ (by decide))).trans h8, ⟨hP, h2, ht⟩, hV, hb⟩, f.up fun a j q => decide_eq_false (by have := of_decide_eq_false q; omega)⟩
theorem PC.aF {s : eTp} {p b : Nat} {u : eV} {m : eM} (h : PC s p u b m) {n c : Nat} (hn : nF u < 6) (hc : c ≤ 10) (hN : n < 27 ^ 8) (d : Nat) : ∃ m', Fr (sPr p) m m' ∧ Pa_addFact d p (nm8 n) (nI c) m = yV m' ∧ PC s p (uFact u n c) b m' := by
  have hP := h.pp
  have hV := Vu_fact h.2.2.2.2.1 hn hc hN
  obtain ⟨⟨h0, k0, k1, k2, k3, k4, k5, k6, k7, k8, k9, k10, k11⟩, ⟨r4, r5, r6, r7, r8, r9, r10, r11, r12, r13, r14⟩, ⟨c0, c1, c2, c3⟩, hf, hpl, hp, hl, hi, hco⟩ := hP
  obtain ⟨m', hm'⟩ : ∃ m', m' = sI (sL (sI (sL m (p + 1) (nF u) (nm8 n)) (p + 2) (nF u) (nI c)) p 15 (dbl (com u) (nF u))) p 0 (nI (nF u + 1)) := ⟨_, rfl⟩
  have f : Fr (sPp p) m m' := by
    rw [hm']
    exact (((Fr.rfl'.l (decide_eq_true (by omega))).i (decide_eq_true (by omega))).l (decide_eq_true (by omega))).i (decide_eq_true (by omega))
  have kI : ∀ a j, ¬ (a = p + 2 ∧ j = nF u) → ¬ (a = p ∧ j = 0) → gI m' a j = gI m a j := fun a j q1 q2 => by
    rw [hm', gI_sI, if_neg q2, gI_sL, gI_sI, if_neg q1, gI_sL]
  have kL : ∀ a j, ¬ (a = p + 1 ∧ j = nF u) → ¬ (a = p ∧ j = 15) → gL m' a j = gL m a j := fun a j q1 q2 => by
    rw [hm', gL_sI, gL_sL, if_neg q2, gL_sI, gL_sL, if_neg q1]
  have g : ∀ a k, a ≠ 0 → ¬ (a = 1 ∧ k = nF u) → ¬ (a = 18 ∧ k = nF u) → (uFact u n c).1 a k = u.1 a k := fun a k q0 q1 q2 => by
    show (upV (upV (upV (upL u 1 0 (dbl (com u) (nF u))) 1 (nF u) c) 18 (nF u) n) 0 0 (nF u + 1)).1 a k = _
    rw [up_o _ _ _ _ _ _ (by omega), up_o _ _ _ _ _ _ q2, up_o _ _ _ _ _ _ q1, uL_V]
  have hPl6 := h.2.2.2.2.1.1.2.1
  have hP6 := h.2.2.2.2.1.1.2.2.1
  obtain ⟨w1, w2⟩ := h.ad (m' := m') f (u' := uFact u n c) ⟨⟨h0, k0, k1, k2, k3, k4, k5, k6, k7, k8, k9, k10, k11⟩, ⟨(f.r _ _).trans r4, (f.r _ _).trans r5, (f.r _ _).trans r6, (f.r _ _).trans r7, (f.r _ _).trans r8, (f.r _ _).trans r9, (f.r _ _).trans r10, (f.r _ _).trans r11, (f.r _ _).trans r12, (f.r _ _).trans r13, (f.r _ _).trans r14⟩, ⟨by rw [hm', gI_w]; rfl, (kI p 1 (by omega) (by omega)).trans c1, (kI p 2 (by omega) (by omega)).trans c2, (kI p 3 (by omega) (by omega)).trans c3⟩, fun j hj => by
      have hj : j < nF u + 1 := hj
      by_cases z : j = nF u
      · subst z
        have e1 : cha (uFact u n c) (nF u) = c := by
          show (upV (upV (upV (upL u 1 0 (dbl (com u) (nF u))) 1 (nF u) c) 18 (nF u) n) 0 0 (nF u + 1)).1 1 (nF u) = c
          rw [up_o _ _ _ _ _ _ (by omega), up_o _ _ _ _ _ _ (by omega), up_e]
        have e2 : nam (uFact u n c) (nF u) = n := by
          show (upV (upV (upV (upL u 1 0 (dbl (com u) (nF u))) 1 (nF u) c) 18 (nF u) n) 0 0 (nF u + 1)).1 18 (nF u) = n
          rw [up_o _ _ _ _ _ _ (by omega), up_e]
        rw [e1, e2]
        refine ⟨?_, ?_⟩
        · rw [hm', gL_sI, gL_sL, if_neg (by omega), gL_sI, gL_w]
        · rw [hm', gI_sI, if_neg (by omega), gI_sL, gI_w]
      · have e1 : cha (uFact u n c) j = cha u j := g 1 j (by decide) (by omega) (by omega)
        have e2 : nam (uFact u n c) j = nam u j := g 18 j (by decide) (by omega) (by omega)
        rw [e1, e2, kL _ _ (by omega) (by omega), kI _ _ (by omega) (by omega)]
        exact hf j (by omega), fun j hj => by
      have hj : j < nPl u := hj
      have e1 : bea (uFact u n c) j = bea u j := g 2 j (by decide) (by omega) (by omega)
      have e2 : nam (uFact u n c) (6 + j) = nam u (6 + j) := g 18 (6 + j) (by decide) (by omega) (by omega)
      rw [e1, e2, kL _ _ (by omega) (by omega), kI _ _ (by omega) (by omega)]
      exact hpl j hj, fun j hj => by
      have hj : j < nP u := hj
      have e1 : hom (uFact u n c) j = hom u j := g 3 j (by decide) (by omega) (by omega)
      have e2 : kno (uFact u n c) j = kno u j := g 4 j (by decide) (by omega) (by omega)
      have e3 : nam (uFact u n c) (12 + j) = nam u (12 + j) := g 18 (12 + j) (by decide) (by omega) (by omega)
      have e4 : bea (uFact u n c) (hom u j) = bea u (hom u j) := g 2 _ (by decide) (by omega) (by omega)
      rw [e1, e2, e3, e4, kL _ _ (by omega) (by omega), kI _ _ (by omega) (by omega), kI _ _ (by omega) (by omega), kI _ _ (by omega) (by omega)]
      exact hp j hj, fun x hx => by
      have e1 : lawV (uFact u n c) x = lawV u x := g 5 x (by decide) (by omega) (by omega)
      have e2 : lat (uFact u n c) x = lat u x := g 6 x (by decide) (by omega) (by omega)
      rw [e1, e2, kI _ _ (by omega) (by omega), kI _ _ (by omega) (by omega)]
      exact hl x hx, by
      have e1 : isc (uFact u n c) 1 = isc u 1 := g 7 1 (by decide) (by omega) (by omega)
      rw [e1, kI _ _ (by omega) (by omega)]
      exact hi, by
      rw [hm', gL_sI, gL_w]; rfl⟩ (fun x hx => by
      have e1 : tol (uFact u n c) x = tol u x := g 19 x (by decide) (by omega) (by omega)
      rw [e1, kI _ _ (by omega) (by omega)]
      exact h.2.2.2.1.2.2 x hx) hV
  refine ⟨m', w2, ?_, w1⟩
  have n6 : ¬ (nI 6 ≤ nI (nF u)) := by rw [n_le (by omega) (by omega)]; omega
  rw [Pa_addFact_e _ _ _ _ _ h.kd, c0, if_neg (nI_pos (by omega)), r4, bR_s, pk_gl k1 (by decide), pk_len k1 (by omega), toI, if_neg n6, r5, bR_s, pk_gl k2 (by decide), pk_len k2 (by omega), toI, if_neg n6, bR_s, pk_gw k1 h0 hn (by decide), mJ_u, n_cl (by omega)]
  have e00 : gI (sL m (p + 1) (nF u) (nm8 n)) p 0 = nI (nF u) := c0
  show (bR (gR m p 5) fun r5 => _) = _
  rw [r5, bR_s, e00, pk_gw k2 h0 hn (by decide), mI_u, n_cl (by omega)]
  have e15 : gL (sI (sL m (p + 1) (nF u) (nm8 n)) (p + 2) (nF u) (nI c)) p 15 = com u := by
    rw [gL_sI, gL_sL, if_neg (by omega)]; exact hco
  have e0 : gI (sI (sL m (p + 1) (nF u) (nm8 n)) (p + 2) (nF u) (nI c)) p 0 = nI (nF u) := by
    rw [gI_sI, if_neg (by omega)]; exact c0
  rw [e15, e0, dbl_c hn, mJ_u]
  show mI (sL (sI (sL m (p + 1) (nF u) (nm8 n)) (p + 2) (nF u) (nI c)) p 15 (dbl (com u) (nF u))) p 0 (gI (sI (sL m (p + 1) (nF u) (nm8 n)) (p + 2) (nF u) (nI c)) p 0 + 1) _ = _
  rw [e0, mI_u, nI_1, hm']
theorem PC.aP {s : eTp} {p b : Nat} {u : eV} {m : eM} (h : PC s p u b m) {n c : Nat} (hn : nPl u < 6) (hc : c < 360) (hN : n < 27 ^ 8) (d : Nat) : ∃ m', Fr (sPr p) m m' ∧ Pa_addPlace d p (nm8 n) (nI c) m = yV m' ∧ PC s p (uPlac u n c) b m' := by
  have hP := h.pp
  have hV := Vu_plac h.2.2.2.2.1 hn hc hN
  have hb3 := h.2.2.2.2.1.2.1.2.2
  obtain ⟨⟨h0, k0, k1, k2, k3, k4, k5, k6, k7, k8, k9, k10, k11⟩, ⟨r4, r5, r6, r7, r8, r9, r10, r11, r12, r13, r14⟩, ⟨c0, c1, c2, c3⟩, hf, hpl, hp, hl, hi, hco⟩ := hP
  obtain ⟨m', hm'⟩ : ∃ m', m' = sI (sI (sL m (p + 3) (nPl u) (nm8 n)) (p + 4) (nPl u) (nI c)) p 1 (nI (nPl u + 1)) := ⟨_, rfl⟩
  have f : Fr (sPp p) m m' := by
    rw [hm']
    exact ((Fr.rfl'.l (decide_eq_true (by omega))).i (decide_eq_true (by omega))).i (decide_eq_true (by omega))
  have kI : ∀ a j, ¬ (a = p + 4 ∧ j = nPl u) → ¬ (a = p ∧ j = 1) → gI m' a j = gI m a j := fun a j q1 q2 => by
    rw [hm', gI_sI, if_neg q2, gI_sI, if_neg q1, gI_sL]
  have kL : ∀ a j, ¬ (a = p + 3 ∧ j = nPl u) → gL m' a j = gL m a j := fun a j q1 => by
    rw [hm', gL_sI, gL_sI, gL_sL, if_neg q1]
  have g : ∀ a k, a ≠ 0 → ¬ (a = 2 ∧ k = nPl u) → ¬ (a = 18 ∧ k = 6 + nPl u) → (uPlac u n c).1 a k = u.1 a k := fun a k q0 q1 q2 => by
    show (upV (upV (upV u 2 (nPl u) c) 18 (6 + nPl u) n) 0 1 (nPl u + 1)).1 a k = _
    rw [up_o _ _ _ _ _ _ (by omega), up_o _ _ _ _ _ _ q2, up_o _ _ _ _ _ _ q1]
  have hF6 := h.2.2.2.2.1.1.1
  obtain ⟨w1, w2⟩ := h.ad (m' := m') f (u' := uPlac u n c) ⟨⟨h0, k0, k1, k2, k3, k4, k5, k6, k7, k8, k9, k10, k11⟩, ⟨(f.r _ _).trans r4, (f.r _ _).trans r5, (f.r _ _).trans r6, (f.r _ _).trans r7, (f.r _ _).trans r8, (f.r _ _).trans r9, (f.r _ _).trans r10, (f.r _ _).trans r11, (f.r _ _).trans r12, (f.r _ _).trans r13, (f.r _ _).trans r14⟩, ⟨(kI p 0 (by omega) (by omega)).trans c0, by rw [hm', gI_w]; rfl, (kI p 2 (by omega) (by omega)).trans c2, (kI p 3 (by omega) (by omega)).trans c3⟩, fun j hj => by
      have hj : j < nF u := hj
      have e1 : cha (uPlac u n c) j = cha u j := g 1 j (by decide) (by omega) (by omega)
      have e2 : nam (uPlac u n c) j = nam u j := g 18 j (by decide) (by omega) (by omega)
      rw [e1, e2, kL _ _ (by omega), kI _ _ (by omega) (by omega)]
      exact hf j hj, fun j hj => by
      have hj : j < nPl u + 1 := hj
      by_cases z : j = nPl u
      · subst z
        have e1 : bea (uPlac u n c) (nPl u) = c := by
          show (upV (upV (upV u 2 (nPl u) c) 18 (6 + nPl u) n) 0 1 (nPl u + 1)).1 2 (nPl u) = c
          rw [up_o _ _ _ _ _ _ (by omega), up_o _ _ _ _ _ _ (by omega), up_e]
        have e2 : nam (uPlac u n c) (6 + nPl u) = n := by
          show (upV (upV (upV u 2 (nPl u) c) 18 (6 + nPl u) n) 0 1 (nPl u + 1)).1 18 (6 + nPl u) = n
          rw [up_o _ _ _ _ _ _ (by omega), up_e]
        rw [e1, e2]
        refine ⟨?_, ?_⟩
        · rw [hm', gL_sI, gL_sI, gL_w]
        · rw [hm', gI_sI, if_neg (by omega), gI_w]
      · have e1 : bea (uPlac u n c) j = bea u j := g 2 j (by decide) (by omega) (by omega)
        have e2 : nam (uPlac u n c) (6 + j) = nam u (6 + j) := g 18 (6 + j) (by decide) (by omega) (by omega)
        rw [e1, e2, kL _ _ (by omega), kI _ _ (by omega) (by omega)]
        exact hpl j (by omega), fun j hj => by
      have hj : j < nP u := hj
      have hh := (hb3 j hj).1
      have e1 : hom (uPlac u n c) j = hom u j := g 3 j (by decide) (by omega) (by omega)
      have e2 : kno (uPlac u n c) j = kno u j := g 4 j (by decide) (by omega) (by omega)
      have e3 : nam (uPlac u n c) (12 + j) = nam u (12 + j) := g 18 (12 + j) (by decide) (by omega) (by omega)
      have e4 : bea (uPlac u n c) (hom u j) = bea u (hom u j) := g 2 _ (by decide) (by omega) (by omega)
      rw [e1, e2, e3, e4, kL _ _ (by omega), kI _ _ (by omega) (by omega), kI _ _ (by omega) (by omega), kI _ _ (by omega) (by omega)]
      exact hp j hj, fun x hx => by
      have e1 : lawV (uPlac u n c) x = lawV u x := g 5 x (by decide) (by omega) (by omega)
      have e2 : lat (uPlac u n c) x = lat u x := g 6 x (by decide) (by omega) (by omega)
      rw [e1, e2, kI _ _ (by omega) (by omega), kI _ _ (by omega) (by omega)]
      exact hl x hx, by
      have e1 : isc (uPlac u n c) 1 = isc u 1 := g 7 1 (by decide) (by omega) (by omega)
      rw [e1, kI _ _ (by omega) (by omega)]
      exact hi, by
      rw [kL _ _ (by omega)]; exact hco⟩ (fun x hx => by
      have e1 : tol (uPlac u n c) x = tol u x := g 19 x (by decide) (by omega) (by omega)
      rw [e1, kI _ _ (by omega) (by omega)]
      exact h.2.2.2.1.2.2 x hx) hV
  refine ⟨m', w2, ?_, w1⟩
  have n6 : ¬ (nI 6 ≤ nI (nPl u)) := by rw [n_le (by omega) (by omega)]; omega
  rw [Pa_addPlace_e _ _ _ _ _ h.kd, c1, if_neg (nI_pos (by omega)), r6, bR_s, pk_gl k3 (by decide), pk_len k3 (by omega), toI, if_neg n6, r7, bR_s, pk_gl k4 (by decide), pk_len k4 (by omega), toI, if_neg n6, bR_s, pk_gw k3 h0 hn (by decide), mJ_u, n_cl (by omega)]
  have e00 : gI (sL m (p + 3) (nPl u) (nm8 n)) p 1 = nI (nPl u) := c1
  show (bR (gR m p 7) fun r5 => _) = _
  rw [r7, bR_s, e00, pk_gw k4 h0 hn (by decide), mI_u, n_cl (by omega)]
  have e0 : gI (sI (sL m (p + 3) (nPl u) (nm8 n)) (p + 4) (nPl u) (nI c)) p 1 = nI (nPl u) := by
    rw [gI_sI, if_neg (by omega)]; exact c1
  rw [e0, mI_u, nI_1, hm']
theorem PC.aQ {s : eTp} {p b : Nat} {u : eV} {m : eM} (h : PC s p u b m) {n q k : Nat} (hn : nP u < 6) (hq : q < nPl u) (hk : k < 2 ^ nF u) (hN : n < 27 ^ 8) (d : Nat) : ∃ m', Fr (sPr p) m m' ∧ Pa_addPerson d p (nm8 n) (nI q) (nI k) m = yV m' ∧ PC s p (uPers u n q k) b m' := by
  have hP := h.pp
  have hV := Vu_pers h.2.2.2.2.1 hn hq hk hN
  have hb3 := h.2.2.2.2.1.2.1.2.2
  have hPl6 := h.2.2.2.2.1.1.2.1
  have hF6 := h.2.2.2.2.1.1.1
  obtain ⟨⟨h0, k0, k1, k2, k3, k4, k5, k6, k7, k8, k9, k10, k11⟩, ⟨r4, r5, r6, r7, r8, r9, r10, r11, r12, r13, r14⟩, ⟨c0, c1, c2, c3⟩, hf, hpl, hp, hl, hi, hco⟩ := hP
  obtain ⟨m', hm'⟩ : ∃ m', m' = sI (sI (sI (sI (sL m (p + 5) (nP u) (nm8 n)) (p + 6) (nP u) (nI q)) (p + 7) (nP u) (nI (bea u q))) (p + 8) (nP u) (nI k)) p 2 (nI (nP u + 1)) := ⟨_, rfl⟩
  have f : Fr (sPp p) m m' := by
    rw [hm']
    exact ((((Fr.rfl'.l (decide_eq_true (by omega))).i (decide_eq_true (by omega))).i (decide_eq_true (by omega))).i (decide_eq_true (by omega))).i (decide_eq_true (by omega))
  have kI : ∀ a j, ¬ (p + 6 ≤ a ∧ a ≤ p + 8 ∧ j = nP u) → ¬ (a = p ∧ j = 2) → gI m' a j = gI m a j := fun a j q1 q2 => by
    rw [hm', gI_sI, if_neg q2, gI_sI, if_neg (by omega), gI_sI, if_neg (by omega), gI_sI, if_neg (by omega), gI_sL]
  have kL : ∀ a j, ¬ (a = p + 5 ∧ j = nP u) → gL m' a j = gL m a j := fun a j q1 => by
    rw [hm', gL_sI, gL_sI, gL_sI, gL_sI, gL_sL, if_neg q1]
  have g : ∀ a j, a ≠ 0 → ¬ (a = 3 ∧ j = nP u) → ¬ (a = 4 ∧ j = nP u) → ¬ (a = 18 ∧ j = 12 + nP u) → (uPers u n q k).1 a j = u.1 a j := fun a j q0 q1 q2 q3 => by
    show (upV (upV (upV (upV u 3 (nP u) q) 4 (nP u) k) 18 (12 + nP u) n) 0 2 (nP u + 1)).1 a j = _
    rw [up_o _ _ _ _ _ _ (by omega), up_o _ _ _ _ _ _ q3, up_o _ _ _ _ _ _ q2, up_o _ _ _ _ _ _ q1]
  obtain ⟨w1, w2⟩ := h.ad (m' := m') f (u' := uPers u n q k) ⟨⟨h0, k0, k1, k2, k3, k4, k5, k6, k7, k8, k9, k10, k11⟩, ⟨(f.r _ _).trans r4, (f.r _ _).trans r5, (f.r _ _).trans r6, (f.r _ _).trans r7, (f.r _ _).trans r8, (f.r _ _).trans r9, (f.r _ _).trans r10, (f.r _ _).trans r11, (f.r _ _).trans r12, (f.r _ _).trans r13, (f.r _ _).trans r14⟩, ⟨(kI p 0 (by omega) (by omega)).trans c0, (kI p 1 (by omega) (by omega)).trans c1, by rw [hm', gI_w]; rfl, (kI p 3 (by omega) (by omega)).trans c3⟩, fun j hj => by
      have hj : j < nF u := hj
      have e1 : cha (uPers u n q k) j = cha u j := g 1 j (by decide) (by omega) (by omega) (by omega)
      have e2 : nam (uPers u n q k) j = nam u j := g 18 j (by decide) (by omega) (by omega) (by omega)
      rw [e1, e2, kL _ _ (by omega), kI _ _ (by omega) (by omega)]
      exact hf j hj, fun j hj => by
      have hj : j < nPl u := hj
      have e1 : bea (uPers u n q k) j = bea u j := g 2 j (by decide) (by omega) (by omega) (by omega)
      have e2 : nam (uPers u n q k) (6 + j) = nam u (6 + j) := g 18 (6 + j) (by decide) (by omega) (by omega) (by omega)
      rw [e1, e2, kL _ _ (by omega), kI _ _ (by omega) (by omega)]
      exact hpl j hj, fun j hj => by
      have hj : j < nP u + 1 := hj
      have e4 : ∀ x, bea (uPers u n q k) x = bea u x := fun x => g 2 x (by decide) (by omega) (by omega) (by omega)
      by_cases z : j = nP u
      · subst z
        have e1 : hom (uPers u n q k) (nP u) = q := by
          show (upV (upV (upV (upV u 3 (nP u) q) 4 (nP u) k) 18 (12 + nP u) n) 0 2 (nP u + 1)).1 3 (nP u) = q
          rw [up_o _ _ _ _ _ _ (by omega), up_o _ _ _ _ _ _ (by omega), up_o _ _ _ _ _ _ (by omega), up_e]
        have e2 : kno (uPers u n q k) (nP u) = k := by
          show (upV (upV (upV (upV u 3 (nP u) q) 4 (nP u) k) 18 (12 + nP u) n) 0 2 (nP u + 1)).1 4 (nP u) = k
          rw [up_o _ _ _ _ _ _ (by omega), up_o _ _ _ _ _ _ (by omega), up_e]
        have e3 : nam (uPers u n q k) (12 + nP u) = n := by
          show (upV (upV (upV (upV u 3 (nP u) q) 4 (nP u) k) 18 (12 + nP u) n) 0 2 (nP u + 1)).1 18 (12 + nP u) = n
          rw [up_o _ _ _ _ _ _ (by omega), up_e]
        rw [e1, e2, e3, e4]
        refine ⟨?_, ?_, ?_, ?_⟩
        · rw [hm', gL_sI, gL_sI, gL_sI, gL_sI, gL_w]
        · rw [hm', gI_sI, if_neg (by omega), gI_sI, if_neg (by omega), gI_sI, if_neg (by omega), gI_w]
        · rw [hm', gI_sI, if_neg (by omega), gI_sI, if_neg (by omega), gI_w]
        · rw [hm', gI_sI, if_neg (by omega), gI_w]
      · have e1 : hom (uPers u n q k) j = hom u j := g 3 j (by decide) (by omega) (by omega) (by omega)
        have e2 : kno (uPers u n q k) j = kno u j := g 4 j (by decide) (by omega) (by omega) (by omega)
        have e3 : nam (uPers u n q k) (12 + j) = nam u (12 + j) := g 18 (12 + j) (by decide) (by omega) (by omega) (by omega)
        rw [e1, e2, e3, e4, kL _ _ (by omega), kI _ _ (by omega) (by omega), kI _ _ (by omega) (by omega), kI _ _ (by omega) (by omega)]
        exact hp j (by omega), fun x hx => by
      have e1 : lawV (uPers u n q k) x = lawV u x := g 5 x (by decide) (by omega) (by omega) (by omega)
      have e2 : lat (uPers u n q k) x = lat u x := g 6 x (by decide) (by omega) (by omega) (by omega)
      rw [e1, e2, kI _ _ (by omega) (by omega), kI _ _ (by omega) (by omega)]
      exact hl x hx, by
      have e1 : isc (uPers u n q k) 1 = isc u 1 := g 7 1 (by decide) (by omega) (by omega) (by omega)
      rw [e1, kI _ _ (by omega) (by omega)]
      exact hi, by
      rw [kL _ _ (by omega)]; exact hco⟩ (fun x hx => by
      have e1 : tol (uPers u n q k) x = tol u x := g 19 x (by decide) (by omega) (by omega) (by omega)
      rw [e1, kI _ _ (by omega) (by omega)]
      exact h.2.2.2.1.2.2 x hx) hV
  refine ⟨m', w2, ?_, w1⟩
  have n6 : ¬ (nI 6 ≤ nI (nP u)) := by rw [n_le (by omega) (by omega)]; omega
  have q6 : ¬ (nI 6 ≤ nI q) := by rw [n_le (by omega) (by omega)]; omega
  have e4 : ∀ (x y : Int32) (z : Int64), gI (sI (sL m (p + 5) (nP u) z) (p + 6) (nP u) x) (p + 4) q = nI (bea u q) := fun x y z => by
    rw [gI_sI, if_neg (by omega)]
    exact (hpl q hq).2
  rw [Pa_addPerson_e _ _ _ _ _ _ h.kd, c2, if_neg (nI_pos (by omega)), r8, bR_s, pk_gl k5 (by decide), pk_len k5 (by omega), toI, if_neg n6, r9, bR_s, pk_gl k6 (by decide), pk_len k6 (by omega), toI, if_neg n6, r10, bR_s, pk_gl k7 (by decide), pk_len k7 (by omega), toI, if_neg n6, r11, bR_s, pk_gl k8 (by decide), pk_len k8 (by omega), toI, if_neg n6, if_neg (nI_pos (by omega)), r7, bR_s, pk_gl k4 (by decide), pk_len k4 (by omega), toI, if_neg q6, bR_s, pk_gw k5 h0 hn (by decide), mJ_u, n_cl (by omega)]
  have e00 : gI (sL m (p + 5) (nP u) (nm8 n)) p 2 = nI (nP u) := c2
  show (bR (gR m p 9) fun r5 => _) = _
  rw [r9, bR_s, e00, pk_gw k6 h0 hn (by decide), mI_u, n_cl (by omega)]
  show (bR (gR m p 10) fun r10 => bR (gR m p 7) fun r11 => _) = _
  rw [r10, bR_s, r7, bR_s, pk_ga k4 (by omega) (by omega) (by decide)]
  have e2 : gI (sI (sL m (p + 5) (nP u) (nm8 n)) (p + 6) (nP u) (nI q)) p 2 = nI (nP u) := by
    rw [gI_sI, if_neg (by omega)]; exact c2
  rw [e2, pk_gw k7 h0 hn (by decide), n_cl (show nP u < 2147483648 by omega), n_cl (show q < 2147483648 by omega), e4 _ 0 _, mI_u]
  show (bR (gR m p 11) fun r13 => _) = _
  have e2' : gI (sI (sI (sL m (p + 5) (nP u) (nm8 n)) (p + 6) (nP u) (nI q)) (p + 7) (nP u) (nI (bea u q))) p 2 = nI (nP u) := by
    rw [gI_sI, if_neg (by omega)]; exact e2
  rw [r11, bR_s, e2', pk_gw k8 h0 hn (by decide), mI_u, n_cl (by omega)]
  have e2'' : gI (sI (sI (sI (sL m (p + 5) (nP u) (nm8 n)) (p + 6) (nP u) (nI q)) (p + 7) (nP u) (nI (bea u q))) (p + 8) (nP u) (nI k)) p 2 = nI (nP u) := by
    rw [gI_sI, if_neg (by omega)]; exact e2'
  rw [e2'', mI_u, nI_1, hm']
theorem PC.aC {s : eTp} {p b : Nat} {u : eV} {m : eM} (h : PC s p u b m) {c l t : Nat} (hc : c < 2) (hl1 : l ≤ 1) (ht1 : t ≤ 60) {D : Nat} (hD : 1 ≤ D) : ∃ m', Fr (sPr p) m m' ∧ Pa_addCock D p (nI c) (nI l) (nI t) m = yV m' ∧ PC s p (uCock u c l t) b m' := by
  obtain ⟨d, rfl⟩ : ∃ d, D = d + 1 := ⟨D - 1, by omega⟩
  have hP := h.pp
  have hV := Vu_cock h.2.2.2.2.1 hc hl1 ht1
  have htol := h.2.2.2.1.2.2
  have hti := h.2.2.2.2.1.2.2.2.1.2
  have eC := Pa_isCock_r hP.1 hP.2.1 d (nI c)
  obtain ⟨⟨h0, k0, k1, k2, k3, k4, k5, k6, k7, k8, k9, k10, k11⟩, ⟨r4, r5, r6, r7, r8, r9, r10, r11, r12, r13, r14⟩, ⟨c0, c1, c2, c3⟩, hf, hpl, hp, hl, hi, hco⟩ := hP
  obtain ⟨m', hm'⟩ : ∃ m', m' = sI (sI (sI m (p + 9) c 1) (p + 10) c (nI l)) (p + 11) c (nI t) := ⟨_, rfl⟩
  have f : Fr (sPp p) m m' := by
    rw [hm']
    exact ((Fr.rfl'.i (decide_eq_true (by omega))).i (decide_eq_true (by omega))).i (decide_eq_true (by omega))
  have kI : ∀ a j, ¬ (p + 9 ≤ a ∧ a ≤ p + 11 ∧ j = c) → gI m' a j = gI m a j := fun a j q1 => by
    rw [hm', gI_sI, if_neg (by omega), gI_sI, if_neg (by omega), gI_sI, if_neg (by omega)]
  have kL : ∀ a j, gL m' a j = gL m a j := fun a j => by rw [hm']; rfl
  have g : ∀ a j, ¬ (5 ≤ a ∧ a ≤ 7) → a ≠ 19 → (uCock u c l t).1 a j = u.1 a j := fun a j q0 q1 => by
    show (upV (upV (upV (upV u 5 c l) 6 c t) 7 c 1) 19 c 1).1 a j = _
    rw [up_o _ _ _ _ _ _ (by omega), up_o _ _ _ _ _ _ (by omega), up_o _ _ _ _ _ _ (by omega), up_o _ _ _ _ _ _ (by omega)]
  have gb : ∀ a, ¬ (5 ≤ a ∧ a ≤ 7) → a ≠ 19 → (uCock u c l t).1 a = u.1 a := fun a q0 q1 => funext fun j => g a j q0 q1
  have q5 : ∀ x, lawV (uCock u c l t) x = if x = c then l else lawV u x := fun x => by
    show (upV (upV (upV (upV u 5 c l) 6 c t) 7 c 1) 19 c 1).1 5 x = _
    rw [up_o _ _ _ _ _ _ (by omega), up_o _ _ _ _ _ _ (by omega), up_o _ _ _ _ _ _ (by omega)]
    by_cases z : x = c
    · rw [if_pos z, z, up_e]
    · rw [if_neg z, up_o _ _ _ _ _ _ (by omega)]; rfl
  have q6 : ∀ x, lat (uCock u c l t) x = if x = c then t else lat u x := fun x => by
    show (upV (upV (upV (upV u 5 c l) 6 c t) 7 c 1) 19 c 1).1 6 x = _
    rw [up_o _ _ _ _ _ _ (by omega), up_o _ _ _ _ _ _ (by omega)]
    by_cases z : x = c
    · rw [if_pos z, z, up_e]
    · rw [if_neg z, up_o _ _ _ _ _ _ (by omega), up_o _ _ _ _ _ _ (by omega)]; rfl
  have q19 : ∀ x, tol (uCock u c l t) x = if x = c then 1 else tol u x := fun x => by
    show (upV (upV (upV (upV u 5 c l) 6 c t) 7 c 1) 19 c 1).1 19 x = _
    by_cases z : x = c
    · rw [if_pos z, z, up_e]
    · rw [if_neg z, up_o _ _ _ _ _ _ (by omega), up_o _ _ _ _ _ _ (by omega), up_o _ _ _ _ _ _ (by omega), up_o _ _ _ _ _ _ (by omega)]; rfl
  have k9' : ∀ x, x < 2 → gI m' (p + 9) x = nI (tol (uCock u c l t) x) := fun x hx => by
    rw [q19, hm', gI_sI, if_neg (by omega), gI_sI, if_neg (by omega), gI_sI]
    by_cases z : x = c
    · rw [if_pos ⟨rfl, z⟩, if_pos z]; rfl
    · rw [if_neg (fun q => z q.2), if_neg z]; exact htol x hx
  have bb1 : cha (uCock u c l t) = cha u := gb 1 (by decide) (by decide)
  have bb2 : bea (uCock u c l t) = bea u := gb 2 (by decide) (by decide)
  have bb3 : hom (uCock u c l t) = hom u := gb 3 (by decide) (by decide)
  have bb4 : kno (uCock u c l t) = kno u := gb 4 (by decide) (by decide)
  have bb18 : nam (uCock u c l t) = nam u := gb 18 (by decide) (by decide)
  obtain ⟨w1, w2⟩ := h.ad (m' := m') f (u' := uCock u c l t) ⟨⟨h0, k0, k1, k2, k3, k4, k5, k6, k7, k8, k9, k10, k11⟩, ⟨(f.r _ _).trans r4, (f.r _ _).trans r5, (f.r _ _).trans r6, (f.r _ _).trans r7, (f.r _ _).trans r8, (f.r _ _).trans r9, (f.r _ _).trans r10, (f.r _ _).trans r11, (f.r _ _).trans r12, (f.r _ _).trans r13, (f.r _ _).trans r14⟩, ⟨(kI p 0 (by omega)).trans c0, (kI p 1 (by omega)).trans c1, (kI p 2 (by omega)).trans c2, (kI p 3 (by omega)).trans c3⟩, fun j hj => by
      rw [bb1, bb18, kL, kI _ _ (by omega)]; exact hf j hj, fun j hj => by
      rw [bb2, bb18, kL, kI _ _ (by omega)]; exact hpl j hj, fun j hj => by
      rw [bb2, bb3, bb4, bb18, kL, kI _ _ (by omega), kI _ _ (by omega), kI _ _ (by omega)]; exact hp j hj, fun x hx => by
      rw [q5, q6]
      refine ⟨?_, ?_⟩
      · rw [hm', gI_sI, if_neg (by omega), gI_sI]
        by_cases z : x = c
        · rw [if_pos ⟨rfl, z⟩, if_pos z]
        · rw [if_neg (fun q => z q.2), if_neg z, gI_sI, if_neg (by omega)]; exact (hl x hx).1
      · rw [hm', gI_sI]
        by_cases z : x = c
        · rw [if_pos ⟨rfl, z⟩, if_pos z]
        · rw [if_neg (fun q => z q.2), if_neg z, gI_sI, if_neg (by omega), gI_sI, if_neg (by omega)]; exact (hl x hx).2, by
      rw [k9' 1 (by decide)]
      exact congrArg nI hV.2.2.2.1.2, by
      rw [kL]; exact hco⟩ k9' hV
  refine ⟨m', w2, ?_, w1⟩
  rw [Pa_addCock_e _ _ _ _ _ _ h.kd, eC, bI_y, inN_n (by omega) (by decide), decide_eq_true hc, if_neg bt0, r12, bR_s, pk_gw k9 h0 hc (by decide), mI_u, n_cl (by omega)]
  show (bR (gR m p 13) fun r5 => _) = _
  rw [r13, bR_s, pk_gw k10 h0 hc (by decide), mI_u]
  show (bR (gR m p 14) fun r5 => _) = _
  rw [r14, bR_s, pk_gw k11 h0 hc (by decide), mI_u, hm']
  rfl
