/-! ===== the law's start: all its cells ===== -/
def lk : List (Nat × Nat × Nat) → Nat → Nat → Option Nat
  | [], _, _ => none
  | q :: W, a, j => if a = q.1 ∧ j = q.2.1 then some q.2.2 else lk W a j
def IS (L : Nat) (xs : Nat → Int32) (k : Nat) (W : List (Nat × Nat × Nat)) (C : List Nat) (S : Nat) (m : eM) : Prop := (gX m = k ∧ gH m + 3 = k ∧ gS m ≤ S ∧ gN m = L) ∧ (∀ a j, gI m a j = gI (em0 L xs) a j) ∧ (∀ a j, gL m a j = if C.contains a = true ∧ j = 15 then 1 else gL (em0 L xs) a j) ∧ ∀ a j, gR m a j = lk W a j
def IG (Z : eM → oX) (L : Nat) (xs : Nat → Int32) (k : Nat) (W : List (Nat × Nat × Nat)) (C : List Nat) (S : Nat) (o : oX) : Prop := ∃ m, o = Z m ∧ IS L xs k W C S m
section Start
variable {L : Nat} {xs : Nat → Int32} {k k' : Nat} {W W' : List (Nat × Nat × Nat)} {C C' : List Nat} {S S' K : Nat} {m : eM} {Z : eM → oX}
theorem IS.n (h : IS L xs k W C S m) (hk : k' = k + 1) (n : Nat) : IS L xs k' W C (S + n) (sN m n) := by
  obtain ⟨⟨h1, h2, h3, h4⟩, h5, h6, h7⟩ := h
  refine ⟨⟨?_, ?_, ?_, h4⟩, h5, h6, h7⟩
  · show gX m + 1 = _
    omega
  · show gH m + 1 + 3 = _
    omega
  · show gS m + n ≤ _
    omega
theorem IS.r (h : IS L xs k W C S m) (a j v : Nat) : IS L xs k ((a, j, v) :: W) C S (sR m a j (some v)) := by
  obtain ⟨h1, h5, h6, h7⟩ := h
  refine ⟨h1, h5, h6, fun b i => ?_⟩
  show (if b = a ∧ i = j then some v else gR m b i) = (if b = a ∧ i = j then some v else lk W b i)
  rw [h7]
theorem IS.l (h : IS L xs k W C S m) (a : Nat) : IS L xs k W (a :: C) S (sL m a 15 1) := by
  obtain ⟨h1, h5, h6, h7⟩ := h
  refine ⟨h1, h5, fun b i => ?_, h7⟩
  show (if b = a ∧ i = 15 then 1 else gL m b i) = _
  rw [h6]
  by_cases z : b = a
  · subst z
    by_cases y : i = 15
    · rw [if_pos ⟨rfl, y⟩, if_pos ⟨by simp, y⟩]
    · rw [if_neg (fun q => y q.2), if_neg (fun q => y q.2), if_neg (fun q => y q.2)]
  · rw [if_neg (fun q => z q.1)]
    by_cases y : C.contains b = true ∧ i = 15
    · rw [if_pos y, if_pos ⟨by rw [List.contains_cons, y.1, Bool.or_true], y.2⟩]
    · rw [if_neg y, if_neg (fun q => y ⟨by
        have := q.1
        rw [List.contains_cons, Bool.or_eq_true] at this
        rcases this with w | w
        · exact absurd (beq_iff_eq.mp w) z
        · exact w, q.2⟩)]
theorem ig_y (h : IS L xs k W C S m) (hS : S ≤ S') : IG Z L xs k W C S' (Z m) := ⟨m, rfl, ⟨h.1.1, h.1.2.1, Nat.le_trans h.1.2.2.1 hS, h.1.2.2.2⟩, h.2⟩
theorem ig_a {n t a j : Nat} {f : eM → oX} (h : IS L xs k W C S m) (e : kk k = (t, n)) (hn : n ≤ 100000) (hk : k' = k + 1) (next : ∀ m', IS L xs k' ((a, j, k) :: W) C (S + n) m' → IG Z L xs K W' C' S' (f m')) : IG Z L xs K W' C' S' (nA m t (nI n) fun b m2 => mQ m2 a j (some b) f) := by
  have hx := h.1.1
  rw [nA_y (by rw [hx]; exact e) hn, mQ_u, hx]
  exact next _ ((h.n hk n).r a j k)
theorem ig_n {n c : Nat} {f : Nat → eM → oX} (h : IS L xs k W C S m) (e : kd k = c) (hk : k' = k + 1) (next : ∀ m', IS L xs k' W C (S + n) m' → IG Z L xs K W' C' S' (f k m')) : IG Z L xs K W' C' S' (nw m n c f) := by
  have hx := h.1.1
  rw [nw_y (by rw [hx]; exact e), hx]
  exact next _ (h.n hk n)
theorem ig_q {a j v : Nat} {f : eM → oX} (h : IS L xs k W C S m) (next : ∀ m', IS L xs k ((a, j, v) :: W) C S m' → IG Z L xs K W' C' S' (f m')) : IG Z L xs K W' C' S' (mQ m a j (some v) f) := next _ (h.r a j v)
theorem ig_l {a : Nat} {f : eM → oX} (h : IS L xs k W C S m) (next : ∀ m', IS L xs k W (a :: C) S m' → IG Z L xs K W' C' S' (f m')) : IG Z L xs K W' C' S' (mJ m a 15 1 f) := next _ (h.l a)
theorem ig_g {a c : Nat} {o : oX} (e : kd a = c) (h : IG Z L xs K W' C' S' o) : IG Z L xs K W' C' S' (gd a c o) := by rw [gd_y e]; exact h
theorem ig_b {o : oX} {f : eM → oX} (h : IG yV L xs k W C S o) (next : ∀ m', IS L xs k W C S m' → IG Z L xs K W' C' S' (f m')) : IG Z L xs K W' C' S' (bV o f) := by
  obtain ⟨m', e, h'⟩ := h
  rw [e, bV_y]
  exact next m' h'
def chk (l : List (Nat × Nat)) (k : Nat) : Bool := (List.range l.length).all fun i => kk (k + i) == l.getD i (99, 0)
theorem chk_i {l : List (Nat × Nat)} {k : Nat} (h : chk l k = true) (i : Nat) (hi : i < l.length) : kk (k + i) = l.getD i (99, 0) := by
  unfold chk at h
  rw [List.all_eq_true] at h
  exact eq_of_beq (h i (List.mem_range.mpr hi))
def wTa (a k : Nat) (W : List (Nat × Nat × Nat)) : List (Nat × Nat × Nat) := (a, 0, k) :: W
abbrev lTa : List (Nat × Nat) := [(22, 1000)]
theorem Ta_i {a : Nat} (ha : kd a = 8) (c : chk lTa k = true) (h : IS L xs k W C S m) (d : Nat) : IG yV L xs (k + 1) (wTa a k W) C (S + 1000) (Ta_init (d + 1) a m) := by
  rw [Ta_init_e _ _ _ ha]
  refine ig_a (n := 1000) (k' := k + 1) h (chk_i c 0 (by decide)) (by decide) rfl fun m1 h => ?_
  exact ig_y h (by omega)
def wFo (a k : Nat) (W : List (Nat × Nat × Nat)) : List (Nat × Nat × Nat) := (a, 1, k + 1) :: (a, 0, k) :: W
abbrev lFo : List (Nat × Nat) := [(20, 1000), (20, 64)]
theorem Fo_i {a : Nat} (ha : kd a = 2) (c : chk lFo k = true) (h : IS L xs k W C S m) (d : Nat) : IG yV L xs (k + 2) (wFo a k W) C (S + 1064) (Fo_init (d + 1) a m) := by
  rw [Fo_init_e _ _ _ ha]
  refine ig_a (n := 1000) (k' := k + 1) h (chk_i c 0 (by decide)) (by decide) rfl fun m1 h => ?_
  refine ig_a (n := 64) (k' := k + 2) h (chk_i c 1 (by decide)) (by decide) rfl fun m2 h => ?_
  exact ig_y h (by omega)
def wTk (a k : Nat) (W : List (Nat × Nat × Nat)) : List (Nat × Nat × Nat) := (a, 4, k + 4) :: (a, 3, k + 3) :: (a, 2, k + 2) :: (a, 1, k + 1) :: (a, 0, k) :: W
abbrev lTk : List (Nat × Nat) := [(20, 31), (20, 31), (21, 31), (21, 31), (21, 31)]
theorem Tk_i {a : Nat} (ha : kd a = 7) (c : chk lTk k = true) (h : IS L xs k W C S m) (d : Nat) : IG yV L xs (k + 5) (wTk a k W) C (S + 155) (Tk_init (d + 1) a m) := by
  rw [Tk_init_e _ _ _ ha]
  refine ig_a (n := 31) (k' := k + 1) h (chk_i c 0 (by decide)) (by decide) rfl fun m1 h => ?_
  refine ig_a (n := 31) (k' := k + 2) h (chk_i c 1 (by decide)) (by decide) rfl fun m2 h => ?_
  refine ig_a (n := 31) (k' := k + 3) h (chk_i c 2 (by decide)) (by decide) rfl fun m3 h => ?_
  refine ig_a (n := 31) (k' := k + 4) h (chk_i c 3 (by decide)) (by decide) rfl fun m4 h => ?_
  refine ig_a (n := 31) (k' := k + 5) h (chk_i c 4 (by decide)) (by decide) rfl fun m5 h => ?_
  exact ig_y h (by omega)
def wLo (a k : Nat) (W : List (Nat × Nat × Nat)) : List (Nat × Nat × Nat) := (a, 3, k + 3) :: (a, 2, k + 2) :: (a, 1, k + 1) :: (a, 0, k) :: W
abbrev lLo : List (Nat × Nat) := [(20, 12), (20, 12), (20, 12), (20, 12)]
theorem Lo_i {a : Nat} (ha : kd a = 3) (c : chk lLo k = true) (h : IS L xs k W C S m) (d : Nat) : IG yV L xs (k + 4) (wLo a k W) C (S + 48) (Lo_init (d + 1) a m) := by
  rw [Lo_init_e _ _ _ ha]
  refine ig_a (n := 12) (k' := k + 1) h (chk_i c 0 (by decide)) (by decide) rfl fun m1 h => ?_
  refine ig_a (n := 12) (k' := k + 2) h (chk_i c 1 (by decide)) (by decide) rfl fun m2 h => ?_
  refine ig_a (n := 12) (k' := k + 3) h (chk_i c 2 (by decide)) (by decide) rfl fun m3 h => ?_
  refine ig_a (n := 12) (k' := k + 4) h (chk_i c 3 (by decide)) (by decide) rfl fun m4 h => ?_
  exact ig_y h (by omega)
def wAi (a k : Nat) (W : List (Nat × Nat × Nat)) : List (Nat × Nat × Nat) := (a, 1, k + 1) :: (a, 0, k) :: W
abbrev lAi : List (Nat × Nat) := [(21, 7), (21, 7)]
theorem Ai_i {a : Nat} (ha : kd a = 0) (c : chk lAi k = true) (h : IS L xs k W C S m) (d : Nat) : IG yV L xs (k + 2) (wAi a k W) C (S + 14) (Ai_init (d + 1) a m) := by
  rw [Ai_init_e _ _ _ ha]
  refine ig_a (n := 7) (k' := k + 1) h (chk_i c 0 (by decide)) (by decide) rfl fun m1 h => ?_
  refine ig_a (n := 7) (k' := k + 2) h (chk_i c 1 (by decide)) (by decide) rfl fun m2 h => ?_
  exact ig_y h (by omega)
def wCo (a k : Nat) (W : List (Nat × Nat × Nat)) : List (Nat × Nat × Nat) := (a, 1, k + 1) :: (a, 0, k) :: W
abbrev lCo : List (Nat × Nat) := [(20, 25), (20, 25)]
theorem Co_i {a : Nat} (ha : kd a = 1) (c : chk lCo k = true) (h : IS L xs k W C S m) (d : Nat) : IG yV L xs (k + 2) (wCo a k W) C (S + 50) (Co_init (d + 1) a m) := by
  rw [Co_init_e _ _ _ ha]
  refine ig_a (n := 25) (k' := k + 1) h (chk_i c 0 (by decide)) (by decide) rfl fun m1 h => ?_
  refine ig_a (n := 25) (k' := k + 2) h (chk_i c 1 (by decide)) (by decide) rfl fun m2 h => ?_
  exact ig_y h (by omega)
def wSe (a k : Nat) (W : List (Nat × Nat × Nat)) : List (Nat × Nat × Nat) := (a, 3, k + 3) :: (a, 2, k + 2) :: (a, 1, k + 1) :: (a, 0, k) :: W
abbrev lSe : List (Nat × Nat) := [(20, 24), (21, 168), (21, 7), (20, 3)]
theorem Se_i {a : Nat} (ha : kd a = 5) (c : chk lSe k = true) (h : IS L xs k W C S m) (d : Nat) : IG yV L xs (k + 4) (wSe a k W) C (S + 202) (Se_init (d + 1) a m) := by
  rw [Se_init_e _ _ _ ha]
  refine ig_a (n := 24) (k' := k + 1) h (chk_i c 0 (by decide)) (by decide) rfl fun m1 h => ?_
  refine ig_a (n := 168) (k' := k + 2) h (chk_i c 1 (by decide)) (by decide) rfl fun m2 h => ?_
  refine ig_a (n := 7) (k' := k + 3) h (chk_i c 2 (by decide)) (by decide) rfl fun m3 h => ?_
  refine ig_a (n := 3) (k' := k + 4) h (chk_i c 3 (by decide)) (by decide) rfl fun m4 h => ?_
  exact ig_y h (by omega)
def wPa (a k : Nat) (W : List (Nat × Nat × Nat)) : List (Nat × Nat × Nat) := (a, 14, k + 10) :: (a, 13, k + 9) :: (a, 12, k + 8) :: (a, 11, k + 7) :: (a, 10, k + 6) :: (a, 9, k + 5) :: (a, 8, k + 4) :: (a, 7, k + 3) :: (a, 6, k + 2) :: (a, 5, k + 1) :: (a, 4, k) :: W
abbrev lPa : List (Nat × Nat) := [(21, 6), (20, 6), (21, 6), (20, 6), (21, 6), (20, 6), (20, 6), (20, 6), (23, 2), (20, 2), (20, 2)]
theorem Pa_i {a : Nat} (ha : kd a = 4) (c : chk lPa k = true) (h : IS L xs k W C S m) (d : Nat) : IG yV L xs (k + 11) (wPa a k W) (a :: C) (S + 54) (Pa_init (d + 1) a m) := by
  rw [Pa_init_e _ _ _ ha]
  refine ig_a (n := 6) (k' := k + 1) h (chk_i c 0 (by decide)) (by decide) rfl fun m1 h => ?_
  refine ig_a (n := 6) (k' := k + 2) h (chk_i c 1 (by decide)) (by decide) rfl fun m2 h => ?_
  refine ig_a (n := 6) (k' := k + 3) h (chk_i c 2 (by decide)) (by decide) rfl fun m3 h => ?_
  refine ig_a (n := 6) (k' := k + 4) h (chk_i c 3 (by decide)) (by decide) rfl fun m4 h => ?_
  refine ig_a (n := 6) (k' := k + 5) h (chk_i c 4 (by decide)) (by decide) rfl fun m5 h => ?_
  refine ig_a (n := 6) (k' := k + 6) h (chk_i c 5 (by decide)) (by decide) rfl fun m6 h => ?_
  refine ig_a (n := 6) (k' := k + 7) h (chk_i c 6 (by decide)) (by decide) rfl fun m7 h => ?_
  refine ig_a (n := 6) (k' := k + 8) h (chk_i c 7 (by decide)) (by decide) rfl fun m8 h => ?_
  refine ig_a (n := 2) (k' := k + 9) h (chk_i c 8 (by decide)) (by decide) rfl fun m9 h => ?_
  refine ig_a (n := 2) (k' := k + 10) h (chk_i c 9 (by decide)) (by decide) rfl fun m10 h => ?_
  refine ig_a (n := 2) (k' := k + 11) h (chk_i c 10 (by decide)) (by decide) rfl fun m11 h => ?_
  refine ig_l h fun mz h => ?_
  exact ig_y h (by omega)
def stQz (k : Nat) : Bool := (kk k == (4, 16)) && chk lPa (k + 1) && (kk (k + 12) == (7, 6)) && chk lTk (k + 13) && (kk (k + 18) == (7, 6)) && chk lTk (k + 19) && (kk (k + 24) == (3, 5)) && chk lLo (k + 25) && (kk (k + 29) == (3, 5)) && chk lLo (k + 30)
def wSt (s k : Nat) (W : List (Nat × Nat × Nat)) : List (Nat × Nat × Nat) := (s, 4, k + 29) :: wLo (k + 29) (k + 30) ((s, 3, k + 24) :: wLo (k + 24) (k + 25) ((s, 2, k + 18) :: wTk (k + 18) (k + 19) ((s, 1, k + 12) :: wTk (k + 12) (k + 13) ((s, 0, k) :: wPa k (k + 1) W))))
theorem St_i {s : Nat} (hs : kd s = 6) (c : stQz k = true) (h : IS L xs k W C S m) (d : Nat) : IG yV L xs (k + 34) (wSt s k W) (k :: C) (S + 498) (St_init (d + 2) s m) := by
  unfold stQz at c
  simp only [Bool.and_eq_true, beq_iff_eq] at c
  obtain ⟨⟨⟨⟨⟨⟨⟨⟨⟨c0, c1⟩, c2⟩, c3⟩, c4⟩, c5⟩, c6⟩, c7⟩, c8⟩, c9⟩ := c
  have d0 := (kk_l c0).1
  have d2 := (kk_l c2).1
  have d4 := (kk_l c4).1
  have d6 := (kk_l c6).1
  have d8 := (kk_l c8).1
  rw [St_init_e _ _ _ hs]
  refine ig_n (k' := k + 1) h d0 rfl fun m1 h => ig_g d0 (ig_b (Pa_i d0 c1 h d) fun m2 h => ?_)
  have h : IS L xs (k + 12) _ _ _ m2 := h
  refine ig_q h fun m3 h => ig_n (k' := k + 13) h d2 rfl fun m4 h => ig_g d2 (ig_b (Tk_i d2 c3 h d) fun m5 h => ?_)
  have h : IS L xs (k + 18) _ _ _ m5 := h
  refine ig_q h fun m6 h => ig_n (k' := k + 19) h d4 rfl fun m7 h => ig_g d4 (ig_b (Tk_i d4 c5 h d) fun m8 h => ?_)
  have h : IS L xs (k + 24) _ _ _ m8 := h
  refine ig_q h fun m9 h => ig_n (k' := k + 25) h d6 rfl fun m10 h => ig_g d6 (ig_b (Lo_i d6 c7 h d) fun m11 h => ?_)
  have h : IS L xs (k + 29) _ _ _ m11 := h
  refine ig_q h fun m12 h => ig_n (k' := k + 30) h d8 rfl fun m13 h => ig_g d8 (ig_b (Lo_i d8 c9 h d) fun m14 h => ?_)
  have h : IS L xs (k + 34) _ _ _ m14 := h
  refine ig_q h fun m15 h => ?_
  exact ig_y h (by omega)
theorem gwR_44 {a i : Nat} {o : oX} (hi : i < 4) (ha : kd a = 6) : gwR m 44 a (nI i) o = o := by
  refine if_pos ⟨(kk_l kk_44).1, ha, ?_, by decide⟩
  unfold eIn
  rw [al_44, n_cl (by omega)]
  exact decide_eq_true (fun q => q.elim (nI_pos (by omega)) (by omega))
theorem in_step {i : Nat} (hi : i < 4) (h33 : lk W 3 3 = some 44) (c0 : kd k = 6) (c : stQz (k + 1) = true) (h : IS L xs k W C S m) (d : Nat) (next : ∀ m', IS L xs (k + 35) ((44, i, k) :: wSt k (k + 1) W) ((k + 1) :: C) (S + 6 + 498) m' → IG yV L xs K W' C' S' (LC_init_126 (d + 3) 3 (nI (i + 1)) m')) : IG yV L xs K W' C' S' (LC_init_126 (d + 3) 3 (nI i) m) := by
  have e33 : gR m 3 3 = some 44 := (h.2.2.2 3 3).trans h33
  rw [LC_init_126_e _ _ _ _ kd_3, e33, bR_s, gl_44, al_44, toI, if_neg (by rw [n_le (by omega) (by omega)]; omega), bR_s]
  refine ig_n (k' := k + 1) h c0 rfl fun m1 h => ig_g c0 (ig_b (St_i c0 c h d) fun m2 h => ?_)
  have h : IS L xs (k + 35) _ _ _ m2 := h
  rw [gwR_44 hi c0, n_cl (by omega)]
  refine ig_q h fun m3 h => ?_
  have := next m3 h
  rw [nI_1]
  exact this
theorem in_last (h33 : lk W 3 3 = some 44) (h : IS L xs k W C S m) (d : Nat) : IG yV L xs k W C S (LC_init_126 (d + 3) 3 (nI 4) m) := by
  have e33 : gR m 3 3 = some 44 := (h.2.2.2 3 3).trans h33
  rw [LC_init_126_e _ _ _ _ kd_3, e33, bR_s, gl_44, al_44, toI, if_pos (by decide)]
  exact ig_y h (Nat.le_refl _)
/-- the references of the class' first cells, below its marks -/
def wA : List (Nat × Nat × Nat) := (3, 11, 67) :: (3, 10, 66) :: (3, 9, 61) :: wSe 61 62 ((3, 8, 58) :: wCo 58 59 ((3, 7, 55) :: wCo 55 56 ((3, 6, 49) :: wTk 49 50 ((3, 5, 46) :: wAi 46 47 ((3, 4, 45) :: (3, 3, 44) :: (3, 2, 9) :: wSt 9 10 ((3, 1, 6) :: wFo 6 7 ((3, 0, 4) :: wTa 4 5 [])))))))
def wB : List (Nat × Nat × Nat) := (44, 3, 173) :: wSt 173 174 ((44, 2, 138) :: wSt 138 139 ((44, 1, 103) :: wSt 103 104 ((44, 0, 68) :: wSt 68 69 wA)))
theorem kd_a4 : kd 4 = 8 ∧ kd 6 = 2 ∧ kd 9 = 6 ∧ kd 46 = 0 ∧ kd 49 = 7 ∧ kd 55 = 1 ∧ kd 58 = 1 ∧ kd 61 = 5 := by decide +kernel
theorem LC_i (h : IS L xs 4 [] [] S m) (d : Nat) : IG yV L xs 208 wB [174, 139, 104, 69, 10] (S + 30000) (LC_init (d + 3) 3 m) := by
  obtain ⟨q4, q6, q9, q46, q49, q55, q58, q61⟩ := kd_a4
  rw [LC_init_e _ _ _ kd_3]
  refine ig_n (k' := 5) h q4 rfl fun m1 h => ig_g q4 (ig_b (Ta_i q4 (by decide +kernel) h _) fun m2 h => ?_)
  have h : IS L xs 6 _ _ _ m2 := h
  refine ig_q h fun m3 h => ig_n (k' := 7) h q6 rfl fun m4 h => ig_g q6 (ig_b (Fo_i q6 (by decide +kernel) h _) fun m5 h => ?_)
  have h : IS L xs 9 _ _ _ m5 := h
  refine ig_q h fun m6 h => ig_n (k' := 10) h q9 rfl fun m7 h => ig_g q9 (ig_b (St_i q9 (by decide +kernel) h _) fun m8 h => ?_)
  have h : IS L xs 44 _ _ _ m8 := h
  refine ig_q h fun m9 h => ig_a (n := 4) (k' := 45) h kk_44 (by decide) rfl fun m10 h => ig_a (n := 4) (k' := 46) h kk_45 (by decide) rfl fun m11 h => ?_
  refine ig_n (k' := 47) h q46 rfl fun m12 h => ig_g q46 (ig_b (Ai_i q46 (by decide +kernel) h _) fun m13 h => ?_)
  have h : IS L xs 49 _ _ _ m13 := h
  refine ig_q h fun m14 h => ig_n (k' := 50) h q49 rfl fun m15 h => ig_g q49 (ig_b (Tk_i q49 (by decide +kernel) h _) fun m16 h => ?_)
  have h : IS L xs 55 _ _ _ m16 := h
  refine ig_q h fun m17 h => ig_n (k' := 56) h q55 rfl fun m18 h => ig_g q55 (ig_b (Co_i q55 (by decide +kernel) h _) fun m19 h => ?_)
  have h : IS L xs 58 _ _ _ m19 := h
  refine ig_q h fun m20 h => ig_n (k' := 59) h q58 rfl fun m21 h => ig_g q58 (ig_b (Co_i q58 (by decide +kernel) h _) fun m22 h => ?_)
  have h : IS L xs 61 _ _ _ m22 := h
  refine ig_q h fun m23 h => ig_n (k' := 62) h q61 rfl fun m24 h => ig_g q61 (ig_b (Se_i q61 (by decide +kernel) h _) fun m25 h => ?_)
  have h : IS L xs 66 _ _ _ m25 := h
  refine ig_q h fun m26 h => ig_a (n := 12) (k' := 67) h kk_66 (by decide) rfl fun m27 h => ig_a (n := 4096) (k' := 68) h kk_67 (by decide) rfl fun m28 h => ?_
  have h : IS L xs 68 wA [10] _ m28 := h
  refine in_step (i := 0) (by decide) (by decide +kernel) (by decide +kernel) (by decide +kernel) h _ fun m29 h => ?_
  have h : IS L xs 103 _ _ _ m29 := h
  refine in_step (i := 1) (by decide) (by decide +kernel) (by decide +kernel) (by decide +kernel) h _ fun m30 h => ?_
  have h : IS L xs 138 _ _ _ m30 := h
  refine in_step (i := 2) (by decide) (by decide +kernel) (by decide +kernel) (by decide +kernel) h _ fun m31 h => ?_
  have h : IS L xs 173 _ _ _ m31 := h
  refine in_step (i := 3) (by decide) (by decide +kernel) (by decide +kernel) (by decide +kernel) h _ fun m32 h => ?_
  have h : IS L xs 208 wB [174, 139, 104, 69, 10] _ m32 := h
  obtain ⟨m33, e, h⟩ := in_last (by decide +kernel) h d
  rw [show nI (3 + 1) = nI 4 from rfl, e]
  exact ig_y h (by omega)
def wM : List (Nat × Nat × Nat) := (208, 67, 257) :: (208, 66, 256) :: (208, 65, 255) :: (208, 64, 254) :: (208, 63, 253) :: (208, 62, 252) :: (208, 60, 251) :: (208, 59, 250) :: (208, 58, 249) :: (208, 57, 248) :: (208, 56, 247) :: (208, 55, 246) :: (208, 54, 245) :: (208, 53, 244) :: (208, 52, 243) :: (208, 51, 242) :: (208, 49, 241) :: (208, 48, 240) :: (208, 47, 239) :: (208, 46, 238) :: (208, 45, 237) :: (208, 39, 236) :: (208, 36, 235) :: (208, 35, 234) :: (208, 34, 233) :: (208, 33, 232) :: (208, 32, 231) :: (208, 31, 230) :: (208, 30, 229) :: (208, 29, 228) :: (208, 28, 227) :: (208, 27, 226) :: (208, 26, 225) :: (208, 25, 224) :: (208, 24, 223) :: (208, 22, 222) :: (208, 21, 221) :: (208, 20, 220) :: (208, 19, 219) :: (208, 18, 218) :: (208, 17, 217) :: (208, 16, 216) :: (208, 15, 215) :: (208, 14, 214) :: (208, 13, 213) :: (208, 12, 212) :: (208, 11, 211) :: (208, 10, 210) :: (208, 2, 209) :: wB
theorem Mo_i (h : IS L xs 209 wB C S m) (d : Nat) : IG (fun m => bV (Mo_forgets d 208 m) fun m' => yV m') L xs 258 wM C (S + 6381) (Mo_init (d + 1) 208 m) := by
  rw [Mo_init_e _ _ _ kd_208]
  refine ig_a (n := 1000) (k' := 210) h kk_209 (by decide) rfl fun m1 h => ?_
  refine ig_a (n := 6) (k' := 211) h kk_210 (by decide) rfl fun m2 h => ?_
  refine ig_a (n := 36) (k' := 212) h kk_211 (by decide) rfl fun m3 h => ?_
  refine ig_a (n := 12) (k' := 213) h kk_212 (by decide) rfl fun m4 h => ?_
  refine ig_a (n := 12) (k' := 214) h kk_213 (by decide) rfl fun m5 h => ?_
  refine ig_a (n := 12) (k' := 215) h kk_214 (by decide) rfl fun m6 h => ?_
  refine ig_a (n := 12) (k' := 216) h kk_215 (by decide) rfl fun m7 h => ?_
  refine ig_a (n := 4) (k' := 217) h kk_216 (by decide) rfl fun m8 h => ?_
  refine ig_a (n := 4) (k' := 218) h kk_217 (by decide) rfl fun m9 h => ?_
  refine ig_a (n := 4) (k' := 219) h kk_218 (by decide) rfl fun m10 h => ?_
  refine ig_a (n := 2) (k' := 220) h kk_219 (by decide) rfl fun m11 h => ?_
  refine ig_a (n := 1000) (k' := 221) h kk_220 (by decide) rfl fun m12 h => ?_
  refine ig_a (n := 1) (k' := 222) h kk_221 (by decide) rfl fun m13 h => ?_
  refine ig_a (n := 1) (k' := 223) h kk_222 (by decide) rfl fun m14 h => ?_
  refine ig_a (n := 7) (k' := 224) h kk_223 (by decide) rfl fun m15 h => ?_
  refine ig_a (n := 7) (k' := 225) h kk_224 (by decide) rfl fun m16 h => ?_
  refine ig_a (n := 7) (k' := 226) h kk_225 (by decide) rfl fun m17 h => ?_
  refine ig_a (n := 7) (k' := 227) h kk_226 (by decide) rfl fun m18 h => ?_
  refine ig_a (n := 7) (k' := 228) h kk_227 (by decide) rfl fun m19 h => ?_
  refine ig_a (n := 7) (k' := 229) h kk_228 (by decide) rfl fun m20 h => ?_
  refine ig_a (n := 7) (k' := 230) h kk_229 (by decide) rfl fun m21 h => ?_
  refine ig_a (n := 7) (k' := 231) h kk_230 (by decide) rfl fun m22 h => ?_
  refine ig_a (n := 7) (k' := 232) h kk_231 (by decide) rfl fun m23 h => ?_
  refine ig_a (n := 7) (k' := 233) h kk_232 (by decide) rfl fun m24 h => ?_
  refine ig_a (n := 7) (k' := 234) h kk_233 (by decide) rfl fun m25 h => ?_
  refine ig_a (n := 20) (k' := 235) h kk_234 (by decide) rfl fun m26 h => ?_
  refine ig_a (n := 2) (k' := 236) h kk_235 (by decide) rfl fun m27 h => ?_
  refine ig_a (n := 4) (k' := 237) h kk_236 (by decide) rfl fun m28 h => ?_
  refine ig_a (n := 31) (k' := 238) h kk_237 (by decide) rfl fun m29 h => ?_
  refine ig_a (n := 31) (k' := 239) h kk_238 (by decide) rfl fun m30 h => ?_
  refine ig_a (n := 31) (k' := 240) h kk_239 (by decide) rfl fun m31 h => ?_
  refine ig_a (n := 31) (k' := 241) h kk_240 (by decide) rfl fun m32 h => ?_
  refine ig_a (n := 31) (k' := 242) h kk_241 (by decide) rfl fun m33 h => ?_
  refine ig_a (n := 62) (k' := 243) h kk_242 (by decide) rfl fun m34 h => ?_
  refine ig_a (n := 12) (k' := 244) h kk_243 (by decide) rfl fun m35 h => ?_
  refine ig_a (n := 12) (k' := 245) h kk_244 (by decide) rfl fun m36 h => ?_
  refine ig_a (n := 12) (k' := 246) h kk_245 (by decide) rfl fun m37 h => ?_
  refine ig_a (n := 12) (k' := 247) h kk_246 (by decide) rfl fun m38 h => ?_
  refine ig_a (n := 12) (k' := 248) h kk_247 (by decide) rfl fun m39 h => ?_
  refine ig_a (n := 360) (k' := 249) h kk_248 (by decide) rfl fun m40 h => ?_
  refine ig_a (n := 360) (k' := 250) h kk_249 (by decide) rfl fun m41 h => ?_
  refine ig_a (n := 4) (k' := 251) h kk_250 (by decide) rfl fun m42 h => ?_
  refine ig_a (n := 4) (k' := 252) h kk_251 (by decide) rfl fun m43 h => ?_
  refine ig_a (n := 24) (k' := 253) h kk_252 (by decide) rfl fun m44 h => ?_
  refine ig_a (n := 1536) (k' := 254) h kk_253 (by decide) rfl fun m45 h => ?_
  refine ig_a (n := 3) (k' := 255) h kk_254 (by decide) rfl fun m46 h => ?_
  refine ig_a (n := 4) (k' := 256) h kk_255 (by decide) rfl fun m47 h => ?_
  refine ig_a (n := 1200) (k' := 257) h kk_256 (by decide) rfl fun m48 h => ?_
  refine ig_a (n := 400) (k' := 258) h kk_257 (by decide) rfl fun m49 h => ?_
  exact ig_y h (by omega)
end Start
theorem Mo_forgets_s (d : Nat) {m : eM} (hs : Sk m) : Mo_forgets d 208 m = yV (sL (sI (sI (sI (sI m 210 0 0) 210 1 0) 210 2 0) 218 0 1) 219 0 1) := by
  have hs1 : Sk (sI m 210 0 0) := hs
  have hs2 : Sk (sI (sI m 210 0 0) 210 1 0) := hs
  have hs3 : Sk (sI (sI (sI m 210 0 0) 210 1 0) 210 2 0) := hs
  have hs4 : Sk (sI (sI (sI (sI m 210 0 0) 210 1 0) 210 2 0) 218 0 1) := hs
  rw [Mo_forgets_e _ _ _ kd_208, Mo_forgets_2_e _ _ _ _ kd_208, if_neg (by decide), rf_208_10 hs, bR_s, show (0 : Int32) = nI 0 from rfl, gw_210 (by decide), mI_u, n_cl (by decide), nI_1]
  show Mo_forgets_2 d 208 (nI 1) (sI m 210 0 0) = _
  rw [Mo_forgets_2_e _ _ _ _ kd_208, if_neg (by decide), rf_208_10 hs1, bR_s, gw_210 (by decide), mI_u, n_cl (by decide), nI_1]
  show Mo_forgets_2 d 208 (nI 2) (sI (sI m 210 0 0) 210 1 0) = _
  rw [Mo_forgets_2_e _ _ _ _ kd_208, if_neg (by decide), rf_208_10 hs2, bR_s, gw_210 (by decide), mI_u, n_cl (by decide), nI_1]
  show Mo_forgets_2 d 208 (nI 3) (sI (sI (sI m 210 0 0) 210 1 0) 210 2 0) = _
  rw [Mo_forgets_2_e _ _ _ _ kd_208, if_pos (by decide), rf_208_18 hs3, bR_s, show (0 : Int32) = nI 0 from rfl, gw_218 (by decide), mI_u, n_cl (by decide)]
  show bR (gR (sI (sI (sI (sI m 210 0 0) 210 1 0) 210 2 0) 218 0 1) 208 19) _ = _
  rw [rf_208_19 hs4, bR_s, gw_219 (by decide), mJ_u]
  rfl
