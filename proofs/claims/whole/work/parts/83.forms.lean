/-! ===== the class reads an E ===== -/
def sFo (a j : Nat) : Bool := (a == 4 && decide (2 ≤ j ∧ j ≤ 8)) || ((a == 6 && j == 2) || a == 7)
theorem sFo_n {a j : Nat} (h1 : a ≠ 4 ∨ j < 2 ∨ 8 < j) (h2 : a ≠ 6 ∨ j ≠ 2) (h3 : a ≠ 7) : sFo a j = false := by
  unfold sFo
  rw [Bool.or_eq_false_iff, Bool.or_eq_false_iff]
  refine ⟨?_, ?_, by simp [h3]⟩
  · by_cases z : a = 4
    · rw [decide_eq_false (by omega), Bool.and_false]
    · simp [z]
  · rcases h2 with z | z
    · simp [z]
    · simp [z]
theorem Fr.tkF {m m' : eM} (f : Fr sTk m m') : Fr sFo m m' := f.up fun a j h => sTk_n (by
  unfold sFo at h
  rw [Bool.or_eq_false_iff] at h
  by_cases z : a = 4
  · subst z
    have := h.1
    simp at this
    omega
  · omega)
/-- the facts of the parish at p -/
def PaC (p : Nat) (N : Nat → Nat) (n : Nat) (m : eM) : Prop := (stP p ∧ gR m p 4 = some (p + 1) ∧ pOK p) ∧ gI m p 0 = nI n ∧ n ≤ 6 ∧ ∀ j, j < n → gL m (p + 1) j = nm8 (N j) ∧ N j < 27 ^ 8
theorem PaC.fr {p : Nat} {N : Nat → Nat} {n : Nat} {m m' : eM} {S : Nat → Nat → Bool} (h : PaC p N n m) (f : Fr S m m') (h1 : S p 0 = false) (h2 : ∀ j, S (p + 1) j = false) : PaC p N n m' := ⟨⟨h.1.1, (f.r _ _).trans h.1.2.1, h.1.2.2⟩, (f.1 _ _ h1).trans h.2.1, h.2.2.1, fun j hj => ⟨(f.2.1 _ _ (h2 j)).trans (h.2.2.2 j hj).1, (h.2.2.2 j hj).2⟩⟩
theorem pOK_F {p a j : Nat} (h : pOK p) (h1 : p ≤ a) (h2 : a ≤ p + 11) : sFo a j = false := sFo_n (by unfold pOK at h; omega) (by unfold pOK at h; omega) (by unfold pOK at h; omega)
/-- the class reads: at the token found from b on, with steps L written, no FAULT yet -/
def QC (s : eTp) (p : Nat) (N : Nat → Nat) (n : Nat) (b : Nat) (L : List Int32) (m : eM) : Prop := (Sk m ∧ Ss m ∧ TpM 4 5 s m) ∧ TkA s b m ∧ gI m 4 8 = 0 ∧ (gI m 6 2 = nI L.length ∧ ∀ i, i < L.length → gI m 7 i = L.getD i 0) ∧ PaC p N n m
theorem QC.sk {s : eTp} {p : Nat} {N : Nat → Nat} {n b : Nat} {L : List Int32} {m : eM} (h : QC s p N n b L m) : Sk m := h.1.1
theorem QC.gp {s : eTp} {p : Nat} {N : Nat → Nat} {n b : Nat} {L : List Int32} {m : eM} (h : QC s p N n b L m) : kd p = 4 := (kk_l h.2.2.2.2.1.1.2.1).1
theorem QC.st {s : eTp} {p : Nat} {N : Nat → Nat} {n b : Nat} {L : List Int32} {m : eM} (h : QC s p N n b L m) (hb : b ≤ s.1) {D : Nat} (hD : 1 ≤ D) : ∃ m', Fr sFo m m' ∧ Ta_step D 4 m = yV m' ∧ QC s p N n (tX s b) L m' := by
  obtain ⟨⟨hs, hS, ht⟩, hk, h8, ⟨h2, h7⟩, hp⟩ := h
  obtain ⟨m', f, e, k⟩ := Ta_step_s hD (tX_le hb).2 hs ht hk.2.2.1
  have hpO := hp.1.2.2
  exact ⟨m', f.tkF, e, ⟨f.sk hs, hS.fr f (fun j => sTk_n (by omega)) (fun j => sTk_n (by omega)), ht.st f⟩, k, (f.1 _ _ (sTk_n (by omega))).trans h8, ⟨(f.1 _ _ (sTk_n (by omega))).trans h2, fun i hi => (f.1 _ _ (sTk_n (by omega))).trans (h7 i hi)⟩, hp.fr f (sTk_n (by unfold pOK at hpO; omega)) fun j => sTk_n (by unfold pOK at hpO; omega)⟩
theorem gD_snoc (L : List Int32) (x : Int32) (i : Nat) (h : i < L.length + 1) : (L ++ [x]).getD i 0 = if i = L.length then x else L.getD i 0 := by
  rw [List.getD_eq_getElem?_getD, List.getD_eq_getElem?_getD]
  by_cases z : i = L.length
  · rw [if_pos z, z]
    simp
  · rw [if_neg z, List.getElem?_append_left (by omega)]
theorem QC.wr {s : eTp} {p : Nat} {N : Nat → Nat} {n b : Nat} {L : List Int32} {m : eM} (h : QC s p N n b L m) (hL : L.length < 1000) (d : Nat) (x : Int32) : ∃ m', Fr sFo m m' ∧ Fo_write d 6 x m = yV m' ∧ QC s p N n b (L ++ [x]) m' := by
  obtain ⟨⟨hs, hS, ht⟩, hk, h8, ⟨h2, h7⟩, hp⟩ := h
  have hpO := hp.1.2.2
  have f : Fr sFo m (sI (sI m 7 L.length x) 6 2 (nI (L.length + 1))) := (Fr.rfl'.i rfl).i rfl
  refine ⟨_, f, ?_, ⟨f.sk hs, hS.fr f (fun j => rfl) (fun j => rfl), (f.1 _ _ rfl).trans ht.1, ht.2.1, fun i hi => (f.1 _ _ rfl).trans (ht.2.2.1 i hi), ht.2.2.2⟩, hk.fr (S := fun a _ => a == 7 || a == 6) ((Fr.rfl'.i rfl).i rfl) (fun j _ _ => rfl), h8, ⟨?_, fun i hi => ?_⟩, hp.fr f (pOK_F hpO (by omega) (by omega)) fun j => pOK_F hpO (by omega) (by omega)⟩
  · rw [Fo_write_e _ _ _ _ kd_6, h2, if_neg (nI_pos (by omega)), rf_6_0 hs, bR_s, gl_7, al_7, toI, if_neg (by rw [n_le (by omega) (by omega)]; omega), bR_s, gw_7 hL, mI_u, n_cl (by omega), gI_sI, if_neg (by omega), h2, mI_u, nI_1]
  · rw [gI_w, List.length_append]; rfl
  · rw [List.length_append, List.length_cons, List.length_nil] at hi
    rw [gD_snoc L x i hi, gI_sI, if_neg (by omega), gI_sI]
    by_cases z : i = L.length
    · rw [if_pos ⟨rfl, z⟩, if_pos z]
    · rw [if_neg (fun q => z q.2), if_neg z]; exact h7 i (by omega)
theorem Fo_write_any {m : eM} (hs : Sk m) (d : Nat) (x : Int32) : ∃ m', Fr sFo m m' ∧ Fo_write d 6 x m = yV m' ∧ gI m' 4 8 = gI m 4 8 := by
  rw [Fo_write_e _ _ _ _ kd_6]
  by_cases z : gI m 6 2 < 0
  · rw [if_pos z]; exact ⟨m, Fr.rfl', rfl, rfl⟩
  · rw [if_neg z, rf_6_0 hs, bR_s, gl_7, al_7, toI]
    by_cases y : nI 1000 ≤ gI m 6 2
    · rw [if_pos y]; exact ⟨m, Fr.rfl', rfl, rfl⟩
    · have : inN (gI m 6 2) 1000 = true := by unfold inN; rw [decide_eq_false z, decide_eq_false y]; rfl
      obtain ⟨k, hk, e⟩ := inN_of (by decide) this
      rw [if_neg y, bR_s, e, gw_7 hk, mI_u, mI_u]
      exact ⟨_, (Fr.rfl'.i rfl).i rfl, rfl, rfl⟩
/-- it does what P says -/
def ImC (s : eTp) (p : Nat) (N : Nat → Nat) (n : Nat) (F : eM → oX) (P : xP) : Prop := ∀ b L m, b ≤ s.1 → L.length ≤ tB s b → QC s p N n b L m → (∀ e, P b = .inl e → ∃ m', Fr sFo m m' ∧ F m = yI 0 m' ∧ gI m' 4 8 = nI e) ∧ (∀ g, P b = .inr g → ∃ m', Fr sFo m m' ∧ F m = yI 1 m' ∧ QC s p N n g.1 (L ++ g.2.1) m')
theorem bt0 : ¬ bb true = 0 := by decide
theorem bf0 : bb false = 0 := rfl
theorem nbf0 : ¬ ¬ bb false = 0 := fun q => q rfl
theorem ten1 : ¬ (1 : Int32) = 0 := by decide
theorem Fo_loop {s : eTp} {p : Nat} {N : Nat → Nat} {n d K : Nat} (hd : 1 ≤ d) {S : eM → oX} {sub : xP} {op : Nat → Option xOp} {G : Nat → Value → eM → oX} (hS : ImC s p N n S sub) (hG : pG s sub) (hop : opK s op)
    (hn : ∀ i w b L m, i < K → QC s p N n b L m → op b = none → G i w m = yI 1 m)
    (hs' : ∀ i w b L m o, i < K → QC s p N n b L m → op b = some o → ∃ w', G i w m = bV (Ta_step d 4 m) fun m1 => bI (S m1) fun v m2 => if ¬ v = 0 then (bV (Fo_write d 6 o.1 m2) fun m4 => G (i + 1) w' m4) else yI 0 m2)
    (he : ∀ w m, G K w m = yI 1 m) : ∀ k i w g L m, i + k = K → g.1 ≤ s.1 → (L ++ g.2.1).length ≤ tB s g.1 → QC s p N n g.1 (L ++ g.2.1) m → (∀ e, pLp s sub op k g = .inl e → ∃ m', Fr sFo m m' ∧ G i w m = yI 0 m' ∧ gI m' 4 8 = nI e) ∧ (∀ h, pLp s sub op k g = .inr h → ∃ m', Fr sFo m m' ∧ G i w m = yI 1 m' ∧ QC s p N n h.1 (L ++ h.2.1) m')
  | 0, i, w, g, L, m, e, h1, h2, h => by
    refine ⟨fun e q => (by cases q), fun x q => ?_⟩
    cases q
    rw [show i = K by omega]
    exact ⟨m, Fr.rfl', he w m, h⟩
  | k + 1, i, w, g, L, m, e, h1, h2, h => by
    cases z : op g.1 with
    | none =>
      refine ⟨fun e q => (by rw [pLp_n z] at q; cases q), fun x q => ?_⟩
      rw [pLp_n z] at q
      cases q
      exact ⟨m, Fr.rfl', hn i w _ _ m (by omega) h z, h⟩
    | some o =>
      have hk := hop _ _ z
      obtain ⟨k1, k2⟩ := tk_nx h1 hk
      obtain ⟨w', e1⟩ := hs' i w _ _ m o (by omega) h z
      obtain ⟨m1, f1, a1, q1⟩ := h.st h1 hd
      obtain ⟨hE, hI⟩ := hS (tX s g.1) (L ++ g.2.1) m1 k1 (by omega) q1
      rw [e1, a1, bV_y]
      cases y : sub (tX s g.1) with
      | inl e0 =>
        obtain ⟨m2, f2, a2, r8⟩ := hE e0 y
        refine ⟨fun e q => ?_, fun x q => by rw [pLp_e z y] at q; cases q⟩
        rw [pLp_e z y] at q
        cases q
        rw [a2, bI_y, if_neg (fun q => q rfl)]
        exact ⟨m2, f1.tr f2, rfl, r8⟩
      | inr x =>
        obtain ⟨m2, f2, a2, q2⟩ := hI x y
        obtain ⟨r1, r2, r3, -⟩ := hG _ x k1 y
        have hlen : (L ++ g.2.1 ++ x.2.1).length + 1 ≤ tB s x.1 := by rw [List.length_append]; omega
        have h1000 : s.1 ≤ 1000 := h.1.2.2.2.1
        have hx := (tB_le r1).2
        obtain ⟨m3, f3, a3, q3⟩ := q2.wr (by omega) d o.1
        have el : L ++ g.2.1 ++ x.2.1 ++ [o.1] = L ++ (opG o g x).2.1 := by
          show _ = L ++ (g.2.1 ++ (x.2.1 ++ [o.1]))
          simp only [List.append_assoc]
        rw [el] at q3
        obtain ⟨i1, i2⟩ := Fo_loop hd hS hG hop hn hs' he k (i + 1) w' (opG o g x) L m3 (by omega) r1 (by rw [← el, List.length_append]; exact hlen) q3
        rw [a2, bI_y, if_pos ten1, a3, bV_y, pLp_s z y]
        refine ⟨fun e q => ?_, fun h q => ?_⟩
        · obtain ⟨m4, f4, a4, r8⟩ := i1 e q
          exact ⟨m4, ((f1.tr f2).tr f3).tr f4, a4, r8⟩
        · obtain ⟨m4, f4, a4, q4⟩ := i2 h q
          exact ⟨m4, ((f1.tr f2).tr f3).tr f4, a4, q4⟩
theorem Fo_bin {s : eTp} {p : Nat} {N : Nat → Nat} {n d K : Nat} (hd : 1 ≤ d) {F S : eM → oX} {sub : xP} {op : Nat → Option xOp} {G : Nat → Value → eM → oX} {w0 : Value} (hS : ImC s p N n S sub) (hG : pG s sub) (hop : opK s op)
    (hF : ∀ b L m, QC s p N n b L m → F m = bI (S m) fun v m1 => if ¬ v = 0 then G 0 w0 m1 else yI 0 m1)
    (hn : ∀ i w b L m, i < K → QC s p N n b L m → op b = none → G i w m = yI 1 m)
    (hs' : ∀ i w b L m o, i < K → QC s p N n b L m → op b = some o → ∃ w', G i w m = bV (Ta_step d 4 m) fun m1 => bI (S m1) fun v m2 => if ¬ v = 0 then (bV (Fo_write d 6 o.1 m2) fun m4 => G (i + 1) w' m4) else yI 0 m2)
    (he : ∀ w m, G K w m = yI 1 m) : ImC s p N n F (pBn s sub op K) := fun b L m hb hL h => by
  obtain ⟨hE, hI⟩ := hS b L m hb hL h
  rw [hF b L m h]
  cases y : sub b with
  | inl e0 =>
    obtain ⟨m2, f2, a2, r8⟩ := hE e0 y
    refine ⟨fun e q => ?_, fun x q => by rw [pBn_e y] at q; cases q⟩
    rw [pBn_e y] at q
    cases q
    rw [a2, bI_y, if_neg (fun q => q rfl)]
    exact ⟨m2, f2, rfl, r8⟩
  | inr g =>
    obtain ⟨m2, f2, a2, q2⟩ := hI g y
    obtain ⟨r1, r2, r3, -⟩ := hG b g hb y
    obtain ⟨i1, i2⟩ := Fo_loop hd hS hG hop hn hs' he K 0 w0 g L m2 (by omega) r1 (by rw [List.length_append]; omega) q2
    rw [a2, bI_y, if_pos ten1, pBn_s y]
    refine ⟨fun e q => ?_, fun h q => ?_⟩
    · obtain ⟨m4, f4, a4, r8⟩ := i1 e q
      exact ⟨m4, f2.tr f4, a4, r8⟩
    · obtain ⟨m4, f4, a4, q4⟩ := i2 h q
      exact ⟨m4, f2.tr f4, a4, q4⟩
/-! the four loops -/
theorem i1000 {i : Nat} (h : i < 1000) : ¬ (1000 : Int32) ≤ nI i := by rw [show (1000 : Int32) = nI 1000 from rfl, n_le (by decide) (by omega)]; omega
theorem QC.sg {s : eTp} {p : Nat} {N : Nat → Nat} {n b : Nat} {L : List Int32} {m : eM} (h : QC s p N n b L m) {c : Nat} (hc : c < 128) (d : Nat) : Ta_isSign d 4 (nI c) m = yI (bb (tkS s b c)) m := Ta_isSign_s h.1.2.2.2.2.2 h.2.1 hc d
theorem QC.wd {s : eTp} {p : Nat} {N : Nat → Nat} {n b : Nat} {L : List Int32} {m : eM} (h : QC s p N n b L m) {c : Nat} (hc : c < 27 ^ 8) (d : Nat) : Ta_isWord d 4 (nm8 c) m = yI (bb (tkW s b c)) m := Ta_isWord_s h.2.1 hc d
theorem Fo_readProduct_s {s : eTp} {p : Nat} {N : Nat → Nat} {n d : Nat} {x3 : Int32} (hd : 1 ≤ d) (hp : kd p = 4) {P : xP} (hS : ImC s p N n (fun m => Fo_readPart d 6 4 p x3 m) P) (hG : pG s P) : ImC s p N n (fun m => Fo_readProduct (d + 1) 6 4 p x3 m) (pPr s P) := by
  refine Fo_bin (K := 1000) (G := fun i _ m => Fo_readProduct_15 (d + 1) 6 4 p x3 (nI i) m) (w0 := eU) hd hS hG (opM_k s) (fun b L m h => Fo_readProduct_e _ _ _ _ _ _ kd_6 kd_4 hp) (fun i w b L m hi h ho => ?_) (fun i w b L m o hi h ho => ⟨eU, ?_⟩) (fun w m => ?_)
  · have q : tkS s b 42 = false := by
      cases z : tkS s b 42 with
      | false => rfl
      | true => unfold opM at ho; rw [if_pos z] at ho; cases ho
    show Fo_readProduct_15 (d + 1) 6 4 p x3 (nI i) m = _
    rw [Fo_readProduct_15_e _ _ _ _ _ _ _ kd_6 kd_4 hp, if_neg (i1000 hi), show (42 : Int32) = nI 42 from rfl, h.sg (by decide), q]
    rfl
  · show Fo_readProduct_15 (d + 1) 6 4 p x3 (nI i) m = _
    have q : tkS s b 42 = true ∧ o = (-17, 22, fMul) := by
      unfold opM at ho
      split at ho
      · rename_i z; cases ho; exact ⟨z, rfl⟩
      · cases ho
    rw [Fo_readProduct_15_e _ _ _ _ _ _ _ kd_6 kd_4 hp, if_neg (i1000 hi), show (42 : Int32) = nI 42 from rfl, h.sg (by decide), q.1, q.2, nI_1]
    rfl
  · show Fo_readProduct_15 (d + 1) 6 4 p x3 (nI 1000) m = _
    rw [Fo_readProduct_15_e _ _ _ _ _ _ _ kd_6 kd_4 hp, if_pos (by decide)]
theorem Fo_readSum_s {s : eTp} {p : Nat} {N : Nat → Nat} {n d : Nat} {x3 : Int32} (hd : 1 ≤ d) (hp : kd p = 4) {P : xP} (hS : ImC s p N n (fun m => Fo_readProduct d 6 4 p x3 m) P) (hG : pG s P) : ImC s p N n (fun m => Fo_readSum (d + 1) 6 4 p x3 m) (pBn s P (opA s) 1000) := by
  refine Fo_bin (K := 1000) (G := fun i w m => Fo_readSum_15 (d + 1) 6 4 p x3 (nI i) w m) (w0 := eU) hd hS hG (opA_k s) (fun b L m h => Fo_readSum_e _ _ _ _ _ _ kd_6 kd_4 hp) (fun i w b L m hi h ho => ?_) (fun i w b L m o hi h ho => ?_) (fun w m => ?_)
  · have q : tkS s b 43 = false ∧ tkS s b 45 = false := by
      unfold opA at ho
      cases z : tkS s b 43 with
      | true => rw [if_pos z] at ho; cases ho
      | false =>
        cases y : tkS s b 45 with
        | true => rw [if_neg (by rw [z]; decide), if_pos y] at ho; cases ho
        | false => exact ⟨rfl, rfl⟩
    show Fo_readSum_15 (d + 1) 6 4 p x3 (nI i) w m = _
    rw [Fo_readSum_15_e _ _ _ _ _ _ _ _ kd_6 kd_4 hp, if_neg (i1000 hi), show (43 : Int32) = nI 43 from rfl, show (45 : Int32) = nI 45 from rfl, h.sg (by decide), bI_y, q.1, if_neg nbf0, h.sg (by decide), bI_y, q.2, if_pos bf0]
  · show ∃ w', Fo_readSum_15 (d + 1) 6 4 p x3 (nI i) w m = _
    rw [Fo_readSum_15_e _ _ _ _ _ _ _ _ kd_6 kd_4 hp, if_neg (i1000 hi), show (43 : Int32) = nI 43 from rfl, show (45 : Int32) = nI 45 from rfl, h.sg (by decide), bI_y]
    unfold opA at ho
    by_cases z : tkS s b 43 = true
    · rw [if_pos z] at ho
      cases ho
      rw [z, if_pos bt0, h.sg (by decide), bI_y, z, if_neg bt0]
      refine ⟨.int (-15), ?_⟩
      rw [Fo_readSum_57_e _ _ _ _ _ _ _ _ _ kd_6 kd_4 hp, nI_1]
    · rw [if_neg z] at ho
      by_cases y : tkS s b 45 = true
      · rw [if_pos y] at ho
        cases ho
        rw [Bool.eq_false_iff.mpr z, if_neg nbf0, h.sg (by decide), bI_y, y, if_neg bt0, h.sg (by decide), bI_y, Bool.eq_false_iff.mpr z, if_pos bf0]
        refine ⟨.int (-16), ?_⟩
        rw [Fo_readSum_57_e _ _ _ _ _ _ _ _ _ kd_6 kd_4 hp, nI_1]
      · rw [if_neg y] at ho; cases ho
  · show Fo_readSum_15 (d + 1) 6 4 p x3 (nI 1000) w m = _
    rw [Fo_readSum_15_e _ _ _ _ _ _ _ _ kd_6 kd_4 hp, if_pos (by decide)]
theorem Fo_readTest_s {s : eTp} {p : Nat} {N : Nat → Nat} {n d : Nat} {x3 : Int32} (hd : 1 ≤ d) (hp : kd p = 4) {P : xP} (hS : ImC s p N n (fun m => Fo_readSum d 6 4 p x3 m) P) (hG : pG s P) : ImC s p N n (fun m => Fo_readTest (d + 1) 6 4 p x3 m) (pBn s P (opC s) 1) := by
  refine Fo_bin (K := 1) (G := fun i _ m => if i = 0 then (bI (Ta_isSign d 4 (60 : Int32) m) fun v4 m3 => if ¬ v4 = 0 then (bI (Ta_isSign d 4 (60 : Int32) m3) fun v6 m5 => if v6 = 0 then (Fo_readTest_48 (d + 1) 6 4 p x3 (-14 : Int32) m5) else (Fo_readTest_48 (d + 1) 6 4 p x3 (-13 : Int32) m5)) else (bI (Ta_isSign d 4 (61 : Int32) m3) fun v8 m7 => if ¬ v8 = 0 then (bI (Ta_isSign d 4 (60 : Int32) m7) fun v10 m9 => if v10 = 0 then (Fo_readTest_48 (d + 1) 6 4 p x3 (-14 : Int32) m9) else (Fo_readTest_48 (d + 1) 6 4 p x3 (-13 : Int32) m9)) else (yI (1 : Int32) m7))) else yI 1 m) (w0 := eU) hd hS hG (opC_k s) (fun b L m h => Fo_readTest_e _ _ _ _ _ _ kd_6 kd_4 hp) (fun i w b L m hi h ho => ?_) (fun i w b L m o hi h ho => ⟨eU, ?_⟩) (fun w m => rfl)
  · have q : tkS s b 60 = false ∧ tkS s b 61 = false := by
      unfold opC at ho
      cases z : tkS s b 60 with
      | true => rw [if_pos z] at ho; cases ho
      | false =>
        cases y : tkS s b 61 with
        | true => rw [if_neg (by rw [z]; decide), if_pos y] at ho; cases ho
        | false => exact ⟨rfl, rfl⟩
    obtain rfl : i = 0 := by omega
    rw [if_pos rfl, show (60 : Int32) = nI 60 from rfl, show (61 : Int32) = nI 61 from rfl, h.sg (by decide), bI_y, q.1, if_neg nbf0, h.sg (by decide), bI_y, q.2, if_neg nbf0]
  · obtain rfl : i = 0 := by omega
    rw [if_pos rfl, show (60 : Int32) = nI 60 from rfl, show (61 : Int32) = nI 61 from rfl, h.sg (by decide), bI_y]
    unfold opC at ho
    by_cases z : tkS s b 60 = true
    · rw [if_pos z] at ho
      cases ho
      rw [z, if_pos bt0, h.sg (by decide), bI_y, z, if_neg bt0, Fo_readTest_48_e _ _ _ _ _ _ _ kd_6 kd_4 hp]
      rfl
    · rw [if_neg z] at ho
      by_cases y : tkS s b 61 = true
      · rw [if_pos y] at ho
        cases ho
        rw [Bool.eq_false_iff.mpr z, if_neg nbf0, h.sg (by decide), bI_y, y, if_pos bt0, h.sg (by decide), bI_y, Bool.eq_false_iff.mpr z, if_pos bf0, Fo_readTest_48_e _ _ _ _ _ _ _ kd_6 kd_4 hp]
        rfl
      · rw [if_neg y] at ho; cases ho
theorem Fo_readTests_s {s : eTp} {p : Nat} {N : Nat → Nat} {n d : Nat} {x3 : Int32} (hd : 1 ≤ d) (hp : kd p = 4) {P : xP} (hS : ImC s p N n (fun m => Fo_readTest d 6 4 p x3 m) P) (hG : pG s P) : ImC s p N n (fun m => Fo_readTests (d + 1) 6 4 p x3 m) (pBn s P (opL s) 1000) := by
  have a8 : (6385252 : Int64) = nm8 1111 := by decide +kernel
  have o8 : (28530 : Int64) = nm8 423 := by decide +kernel
  refine Fo_bin (K := 1000) (G := fun i w m => Fo_readTests_15 (d + 1) 6 4 p x3 (nI i) w m) (w0 := eU) hd hS hG (opL_k s) (fun b L m h => Fo_readTests_e _ _ _ _ _ _ kd_6 kd_4 hp) (fun i w b L m hi h ho => ?_) (fun i w b L m o hi h ho => ?_) (fun w m => ?_)
  · have q : tkW s b 1111 = false ∧ tkW s b 423 = false := by
      unfold opL at ho
      cases z : tkW s b 1111 with
      | true => rw [if_pos z] at ho; cases ho
      | false =>
        cases y : tkW s b 423 with
        | true => rw [if_neg (by rw [z]; decide), if_pos y] at ho; cases ho
        | false => exact ⟨rfl, rfl⟩
    show Fo_readTests_15 (d + 1) 6 4 p x3 (nI i) w m = _
    rw [Fo_readTests_15_e _ _ _ _ _ _ _ _ kd_6 kd_4 hp, if_neg (i1000 hi), a8, o8, h.wd (by decide), bI_y, q.1, if_neg nbf0, h.wd (by decide), bI_y, q.2, if_pos bf0]
  · show ∃ w', Fo_readTests_15 (d + 1) 6 4 p x3 (nI i) w m = _
    rw [Fo_readTests_15_e _ _ _ _ _ _ _ _ kd_6 kd_4 hp, if_neg (i1000 hi), a8, o8, h.wd (by decide), bI_y]
    unfold opL at ho
    by_cases z : tkW s b 1111 = true
    · rw [if_pos z] at ho
      cases ho
      rw [z, if_pos bt0, h.wd (by decide), bI_y, z, if_neg bt0]
      refine ⟨.int (-11), ?_⟩
      rw [Fo_readTests_60_e _ _ _ _ _ _ _ _ _ kd_6 kd_4 hp, nI_1]
    · rw [if_neg z] at ho
      by_cases y : tkW s b 423 = true
      · rw [if_pos y] at ho
        cases ho
        rw [Bool.eq_false_iff.mpr z, if_neg nbf0, h.wd (by decide), bI_y, y, if_neg bt0, h.wd (by decide), bI_y, Bool.eq_false_iff.mpr z, if_pos bf0]
        refine ⟨.int (-12), ?_⟩
        rw [Fo_readTests_60_e _ _ _ _ _ _ _ _ _ kd_6 kd_4 hp, nI_1]
      · rw [if_neg y] at ho; cases ho
  · show Fo_readTests_15 (d + 1) 6 4 p x3 (nI 1000) w m = _
    rw [Fo_readTests_15_e _ _ _ _ _ _ _ _ kd_6 kd_4 hp, if_pos (by decide)]
theorem pO_ne {n : Nat} (h : n < 2147483648) : ¬ pO (some n) = -1 := by
  show ¬ nI n = -1
  rw [n_ne_neg1 h]; exact fun q => q
theorem QC.fn {s : eTp} {p : Nat} {N : Nat → Nat} {n b : Nat} {L : List Int32} {m : eM} (h : QC s p N n b L m) {w : Nat} (hw : w < 27 ^ 8) {D : Nat} (hD : 1 ≤ D) : Pa_factNamed D p (nm8 w) m = yI (pO (fnd N n w)) m := by
  obtain ⟨d, rfl⟩ : ∃ d, D = d + 1 := ⟨D - 1, by omega⟩
  obtain ⟨⟨q1, q2, q3⟩, q4, q5, q6⟩ := h.2.2.2.2
  rw [Pa_factNamed_e _ _ _ _ h.gp, q2, bR_s, q4, Pa_find_s d q1.2.2.1 (by omega) q5 hw (fun j hj => (q6 j hj).2) (fun j hj => (q6 j hj).1), bI_y]
theorem Fo_part_h {s : eTp} {p : Nat} {N : Nat → Nat} {n : Nat} (hp : kd p = 4) (r : Nat) (ih : ∀ r', r = r' + 1 → ∀ D dep, 6 * r' + 6 ≤ D → dep + r' = 5 → ImC s p N n (fun m => Fo_readPart D 6 4 p (nI dep) m) (pPt s N n r')) (D dep : Nat) (hD : 6 * r + 6 ≤ D) (hdp : dep + r = 5) : ImC s p N n (fun m => Fo_readPart D 6 4 p (nI dep) m) (pPt s N n r) := fun b L m hb hL h => by
    obtain ⟨d, rfl⟩ : ∃ d, D = d + 2 := ⟨D - 2, by omega⟩
    have n8 : (7237492 : Int64) = nm8 10631 := by decide +kernel
    have hk4 := tK_le s b
    dsimp only
    rw [Fo_readPart_e _ _ _ _ _ _ kd_6 kd_4 hp, n8, h.wd (by decide), bI_y, show (40 : Int32) = nI 40 from rfl, h.sg (by decide), bI_y, Ta_isName_s h.1.2.1 h.2.1, bI_y]
    have bad : ∀ k D, (Ta_wrong D 4 (nI k) m) = yI 0 (sI m 4 8 (nI (er s b k))) := fun k D => Ta_wrong_s h.2.1 h.2.2.1 k D
    have bf : ∀ k, Fr sFo m (sI m 4 8 (nI (er s b k))) := fun k => Fr.rfl'.i rfl
    have E0 : ∀ k, pPt s N n r b = .inl (er s b k) → ∀ o, o = yI 0 (sI m 4 8 (nI (er s b k))) → (∀ e, pPt s N n r b = .inl e → ∃ m', Fr sFo m m' ∧ o = yI 0 m' ∧ gI m' 4 8 = nI e) ∧ (∀ g, pPt s N n r b = .inr g → ∃ m', Fr sFo m m' ∧ o = yI 1 m' ∧ QC s p N n g.1 (L ++ g.2.1) m') := fun k q o ho => ⟨fun e q2 => by rw [q] at q2; cases q2; exact ⟨_, bf k, ho, gI_w _ _ _ _⟩, fun g q2 => by rw [q] at q2; cases q2⟩
    have h1000 : s.1 ≤ 1000 := h.1.2.2.2.1
    have hkN : (nI (tK s b) = 3) = (tK s b = 3) := by rw [show (3 : Int32) = nI 3 from rfl, n_eq (by omega) (by decide)]
    have h5 : (nI dep < 5) = (dep < 5) := by rw [show (5 : Int32) = nI 5 from rfl, n_lt (by omega) (by decide)]
    by_cases zN : tkN s b = true
    · have kN := (tkN_k zN).1
      have nW : tkW s b 10631 = false := Bool.eq_false_iff.mpr fun q => by
        have := tkW_n (n := 10631) (by decide) q
        rw [this] at zN; cases zN
      have nS : tkS s b 40 = false := Bool.eq_false_iff.mpr fun q => by have := (tkS_k q).1; omega
      rw [zN, nW, nS]
      show _ ∧ _
      rw [if_neg (show ¬ ¬ bb false = 0 from fun q => q rfl), if_neg (show ¬ ¬ bb false = 0 from fun q => q rfl), if_pos (show ¬ bb true = 0 by decide), Fo_readPart_52_e _ _ _ _ _ _ _ _ _ kd_6 kd_4 hp, if_neg (show ¬ bb true = 0 by decide), Ta_word_s h.2.1 kN, bL_y, h.fn (tW_lt kN) (by omega), bI_y, if_neg (show ¬ bb true = 0 by decide)]
      cases y : fnd N n (tW s b) with
      | none =>
        rw [if_neg (show ¬ ¬ pO none = -1 from fun q => q rfl), show (2 : Int32) = nI 2 from rfl, bad, bI_y]
        exact E0 2 (pPt_u zN y) _ rfl
      | some f =>
        have hf : f < 6 := Nat.lt_of_lt_of_le (fnd_lt y) h.2.2.2.2.2.2.1
        rw [if_pos (pO_ne (by omega)), Fo_readPart_88_e _ _ _ _ _ _ _ _ _ _ kd_6 kd_4 hp]
        cases r with
        | zero =>
          rw [if_neg (by rw [h5]; omega), show (5 : Int32) = nI 5 from rfl, bad, bI_y]
          exact E0 5 (pPt_f0 zN y) _ rfl
        | succ r =>
          obtain ⟨k1, k2⟩ := tk_nx hb (show tK s b ≠ 0 by omega)
          have hx := (tX_lt (show tK s b ≠ 0 by omega)).2
          obtain ⟨m1, f1, a1, q1⟩ := h.wr (by omega) (d + 1) (-1 - nI f)
          obtain ⟨m2, f2, a2, q2⟩ := q1.st hb (show 1 ≤ d + 1 by omega)
          rw [if_pos (by rw [h5]; omega), if_neg (show ¬ ¬ bb false = 0 from fun q => q rfl), if_neg (show ¬ ¬ bb false = 0 from fun q => q rfl), if_neg (show ¬ bb true = 0 by decide)]
          show (∀ e, _ → ∃ m', _ ∧ (bV (Fo_write (d + 1) 6 (-1 - nI f) m) fun m5 => bV (Ta_step (d + 1) 4 m5) fun m6 => yI 1 m6) = _ ∧ _) ∧ (∀ e, _ → ∃ m', _ ∧ (bV (Fo_write (d + 1) 6 (-1 - nI f) m) fun m5 => bV (Ta_step (d + 1) 4 m5) fun m6 => yI 1 m6) = _ ∧ _)
          rw [a1, bV_y, a2, bV_y, pPt_f zN y]
          exact ⟨fun e q => (by cases q), fun g q => by cases q; exact ⟨m2, f1.tr f2, rfl, q2⟩⟩
    · have zN' := Bool.eq_false_iff.mpr zN
      rw [zN']
      have e52 : ∀ v2 v4, Fo_readPart_52 (d + 2) 6 4 p (nI dep) v2 v4 (bb false) m = Fo_readPart_88 (d + 2) 6 4 p (nI dep) v2 v4 (bb false) (-1) m := fun v2 v4 => by
        rw [Fo_readPart_52_e _ _ _ _ _ _ _ _ _ kd_6 kd_4 hp, if_pos (show bb false = 0 from rfl), if_pos (show bb false = 0 from rfl)]
      by_cases zW : tkW s b 10631 = true
      · have kN := (tkW_k zW).1
        rw [zW, if_pos (show ¬ bb true = 0 by decide), e52, Fo_readPart_88_e _ _ _ _ _ _ _ _ _ _ kd_6 kd_4 hp]
        cases r with
        | zero =>
          rw [if_neg (by rw [h5]; omega), show (5 : Int32) = nI 5 from rfl, bad, bI_y]
          exact E0 5 (pPt_50 zN (Or.inl zW)) _ rfl
        | succ r =>
          obtain ⟨k1, k2⟩ := tk_nx hb (show tK s b ≠ 0 by omega)
          obtain ⟨m1, f1, a1, q1⟩ := h.st hb (show 1 ≤ d + 1 by omega)
          have nS : tkS s b 40 = false := Bool.eq_false_iff.mpr fun q => by have := (tkS_k q).1; omega
          rw [if_pos (by rw [h5]; omega), if_pos (show ¬ bb true = 0 by decide), Fo_readPart_135_e _ _ _ _ _ _ _ _ _ _ kd_6 kd_4 hp, a1, bV_y, nS, if_pos (show bb false = 0 from rfl), Fo_readNot_e _ _ _ _ _ _ kd_6 kd_4 hp, nI_1]
          obtain ⟨hE, hI⟩ := ih r rfl d (dep + 1) (by omega) (by omega) (tX s b) L m1 k1 (by omega) q1
          cases y : pPt s N n r (tX s b) with
          | inl e0 =>
            obtain ⟨m2, f2, a2, r8⟩ := hE e0 y
            have a2 : Fo_readPart d 6 4 p (nI (dep + 1)) m1 = yI 0 m2 := a2
            obtain ⟨m3, f3, a3, r9⟩ := Fo_write_any (f2.sk q1.sk) d (-10)
            rw [a2, bI_y, a3, bV_y, yB0, bI_y, pPt_ne zN zW y]
            exact ⟨fun e q => by cases q; exact ⟨m3, (f1.tr f2).tr f3, rfl, r9.trans r8⟩, fun g q => by cases q⟩
          | inr x =>
            obtain ⟨m2, f2, a2, q2⟩ := hI x y
            have a2 : Fo_readPart d 6 4 p (nI (dep + 1)) m1 = yI 1 m2 := a2
            obtain ⟨r1, r2, r3, -⟩ := pPt_G s N n r _ x k1 y
            have hx := (tB_le r1).2
            obtain ⟨m3, f3, a3, q3⟩ := q2.wr (by rw [List.length_append]; omega) d (-10)
            rw [a2, bI_y, a3, bV_y, yB1, bI_y, pPt_ns zN zW y]
            exact ⟨fun e q => (by cases q), fun g q => by cases q; exact ⟨m3, (f1.tr f2).tr f3, rfl, by rw [List.append_assoc] at q3; exact q3⟩⟩
      · have zW' := Bool.eq_false_iff.mpr zW
        rw [zW', if_neg (show ¬ ¬ bb false = 0 from fun q => q rfl)]
        by_cases zS : tkS s b 40 = true
        · have kN := (tkS_k zS).1
          rw [zS, if_pos (show ¬ bb true = 0 by decide), e52, Fo_readPart_88_e _ _ _ _ _ _ _ _ _ _ kd_6 kd_4 hp]
          cases r with
          | zero =>
            rw [if_neg (by rw [h5]; omega), show (5 : Int32) = nI 5 from rfl, bad, bI_y]
            exact E0 5 (pPt_50 zN (Or.inr (Or.inl zS))) _ rfl
          | succ r =>
            obtain ⟨k1, k2⟩ := tk_nx hb (show tK s b ≠ 0 by omega)
            obtain ⟨m1, f1, a1, q1⟩ := h.st hb (show 1 ≤ d + 1 by omega)
            obtain ⟨c, rfl⟩ : ∃ c, d = c + 4 := ⟨d - 4, by omega⟩
            have hP := ih r rfl c (dep + 1) (by omega) (by omega)
            have gP := pPt_G s N n r
            have hTs : ImC s p N n (fun m => Fo_readTests (c + 4) 6 4 p (nI (dep + 1)) m) (pTs s (pPt s N n r)) := Fo_readTests_s (d := c + 3) (by omega) hp (Fo_readTest_s (d := c + 2) (by omega) hp (Fo_readSum_s (d := c + 1) (by omega) hp (Fo_readProduct_s (d := c) (by omega) hp hP gP) (pPr_G gP)) (pSm_G gP)) (pTe_G gP)
            rw [if_pos (by rw [h5]; omega), if_neg (show ¬ ¬ bb false = 0 from fun q => q rfl), if_pos (show ¬ bb true = 0 by decide), Fo_readPart_135_e _ _ _ _ _ _ _ _ _ _ kd_6 kd_4 hp, a1, bV_y, if_neg (show ¬ bb true = 0 by decide), Fo_readClosed_e _ _ _ _ _ _ kd_6 kd_4 hp, nI_1]
            obtain ⟨hE, hI⟩ := hTs (tX s b) L m1 k1 (by omega) q1
            cases y : pTs s (pPt s N n r) (tX s b) with
            | inl e0 =>
              obtain ⟨m2, f2, a2, r8⟩ := hE e0 y
              have a2 : Fo_readTests (c + 4) 6 4 p (nI (dep + 1)) m1 = yI 0 m2 := a2
              rw [a2, bI_y, if_neg (fun q => q rfl), bI_y, yB0, pPt_ce zN zW zS y]
              exact ⟨fun e q => by cases q; exact ⟨m2, f1.tr f2, rfl, r8⟩, fun g q => by cases q⟩
            | inr x =>
              obtain ⟨m2, f2, a2, q2⟩ := hI x y
              have a2 : Fo_readTests (c + 4) 6 4 p (nI (dep + 1)) m1 = yI 1 m2 := a2
              obtain ⟨r1, r2, r3, -⟩ := pTs_G gP _ x k1 y
              rw [a2, bI_y, if_pos ten1, show (41 : Int32) = nI 41 from rfl, q2.sg (by decide), bI_y, pPt_cs zN zW zS y]
              by_cases w : tkS s x.1 41 = true
              · obtain ⟨m3, f3, a3, q3⟩ := q2.st r1 (show 1 ≤ c + 4 by omega)
                rw [w, if_pos (show ¬ bb true = 0 by decide), a3, bV_y, bI_y, yB1, if_pos rfl]
                exact ⟨fun e q => (by cases q), fun g q => by cases q; exact ⟨m3, (f1.tr f2).tr f3, rfl, q3⟩⟩
              · rw [Bool.eq_false_iff.mpr w, if_neg (show ¬ ¬ bb false = 0 from fun q => q rfl), show (1 : Int32) = nI 1 from rfl, Ta_wrong_s q2.2.1 q2.2.2.1, bI_y, yB0, bI_y, yB0, if_neg (by decide)]
                exact ⟨fun e q => by cases q; exact ⟨_, (f1.tr f2).i rfl, rfl, gI_w _ _ _ _⟩, fun g q => by cases q⟩
        · have zS' := Bool.eq_false_iff.mpr zS
          rw [zS', if_neg (show ¬ ¬ bb false = 0 from fun q => q rfl), if_neg (show ¬ ¬ bb false = 0 from fun q => q rfl), Ta_kind_s h.2.1, bI_y]
          by_cases z3 : tK s b = 3
          · rw [if_pos (by rw [hkN]; exact z3), e52, Fo_readPart_88_e _ _ _ _ _ _ _ _ _ _ kd_6 kd_4 hp]
            cases r with
            | zero =>
              rw [if_neg (by rw [h5]; omega), show (5 : Int32) = nI 5 from rfl, bad, bI_y]
              exact E0 5 (pPt_50 zN (Or.inr (Or.inr z3))) _ rfl
            | succ r =>
              obtain ⟨k1, k2⟩ := tk_nx hb (show tK s b ≠ 0 by omega)
              have hx := (tX_lt (show tK s b ≠ 0 by omega)).2
              obtain ⟨m1, f1, a1, q1⟩ := h.wr (by omega) (d + 1) (nI (tN s b))
              obtain ⟨m2, f2, a2, q2⟩ := q1.st hb (show 1 ≤ d + 1 by omega)
              rw [if_pos (by rw [h5]; omega), if_neg (show ¬ ¬ bb false = 0 from fun q => q rfl), if_neg (show ¬ ¬ bb false = 0 from fun q => q rfl), if_pos (show bb false = 0 from rfl), Ta_number_s h.2.1 z3, bI_y, a1, bV_y, a2, bV_y, pPt_3 zN zW zS z3]
              exact ⟨fun e q => (by cases q), fun g q => by cases q; exact ⟨m2, f1.tr f2, rfl, q2⟩⟩
          · rw [if_neg (by rw [hkN]; exact z3), show (1 : Int32) = nI 1 from rfl, bad, bI_y]
            exact E0 1 (pPt_1 zN zW zS z3) _ rfl
theorem Fo_part_s {s : eTp} {p : Nat} {N : Nat → Nat} {n : Nat} (hp : kd p = 4) : ∀ r D dep, 6 * r + 6 ≤ D → dep + r = 5 → ImC s p N n (fun m => Fo_readPart D 6 4 p (nI dep) m) (pPt s N n r)
  | 0 => Fo_part_h hp 0 fun r' h => by omega
  | r + 1 => Fo_part_h hp (r + 1) fun r' h => by
    obtain rfl : r' = r := by omega
    exact Fo_part_s hp r'
/-- as QC, whatever was written -/
def QC0 (s : eTp) (p : Nat) (N : Nat → Nat) (n b : Nat) (m : eM) : Prop := (Sk m ∧ Ss m ∧ TpM 4 5 s m) ∧ TkA s b m ∧ gI m 4 8 = 0 ∧ PaC p N n m
theorem Fo_read_s {s : eTp} {p : Nat} {N : Nat → Nat} {n D : Nat} (hD : 60 ≤ D) {b : Nat} {m : eM} (hb : b ≤ s.1) (h : QC0 s p N n b m) : (∀ e, pE s N n b = .inl e → ∃ m', Fr sFo m m' ∧ Fo_read D 6 4 p m = yI 0 m' ∧ gI m' 4 8 = nI e) ∧ (∀ g, pE s N n b = .inr g → ∃ m', Fr sFo m m' ∧ Fo_read D 6 4 p m = yI 1 m' ∧ QC s p N n g.1 g.2.1 m') := by
  obtain ⟨c, rfl⟩ : ∃ c, D = c + 5 := ⟨D - 5, by omega⟩
  have hp : kd p = 4 := (kk_l h.2.2.2.1.1.2.1).1
  have hP := Fo_part_s (s := s) (N := N) (n := n) hp 5 c 0 (by omega) (by omega)
  have gP := pPt_G s N n 5
  have hTs : ImC s p N n (fun m => Fo_readTests (c + 4) 6 4 p (nI 0) m) (pTs s (pPt s N n 5)) := Fo_readTests_s (d := c + 3) (by omega) hp (Fo_readTest_s (d := c + 2) (by omega) hp (Fo_readSum_s (d := c + 1) (by omega) hp (Fo_readProduct_s (d := c) (by omega) hp hP gP) (pPr_G gP)) (pSm_G gP)) (pTe_G gP)
  have f0 : Fr sFo m (sI m 6 2 0) := Fr.rfl'.i rfl
  have q0 : QC s p N n b [] (sI m 6 2 0) := by
    obtain ⟨⟨hs, hS, ht⟩, hk, h8, hpp⟩ := h
    have hpO := hpp.1.2.2
    exact ⟨⟨hs, hS, ht⟩, hk, h8, ⟨gI_w _ _ _ _, fun i hi => by cases hi⟩, hpp.fr f0 (pOK_F hpO (by omega) (by omega)) fun j => pOK_F hpO (by omega) (by omega)⟩
  obtain ⟨hE, hI⟩ := hTs b [] _ hb (Nat.zero_le _) q0
  rw [Fo_read_e _ _ _ _ _ kd_6 kd_4 hp, mI_u]
  refine ⟨fun e q => ?_, fun g q => ?_⟩
  · obtain ⟨m2, f2, a2, r8⟩ := hE e q
    have a2 : Fo_readTests (c + 4) 6 4 p (0 : Int32) (sI m 6 2 0) = yI 0 m2 := a2
    rw [a2, bI_y, yB0]
    exact ⟨m2, f0.tr f2, rfl, r8⟩
  · obtain ⟨m2, f2, a2, q2⟩ := hI g q
    have a2 : Fo_readTests (c + 4) 6 4 p (0 : Int32) (sI m 6 2 0) = yI 1 m2 := a2
    rw [a2, bI_y, yB1]
    exact ⟨m2, f0.tr f2, rfl, q2⟩
