/-! ===== the reference reads an E ===== -/
def sRd (o c a j : Nat) : Bool := (a == 208 && (decide (4 ≤ j ∧ j ≤ 9) || j == 23)) || ((a == 220 || a == 222) || ((a == 223 && decide (o < j)) || (a == 224 && decide (c ≤ j))))
theorem sRd_n {o c a j : Nat} (h1 : a ≠ 208 ∨ (j < 4 ∨ 9 < j) ∧ j ≠ 23) (h2 : a ≠ 220 ∧ a ≠ 222) (h3 : a ≠ 223 ∨ j ≤ o) (h4 : a ≠ 224 ∨ j < c) : sRd o c a j = false := by
  unfold sRd
  rw [Bool.or_eq_false_iff, Bool.or_eq_false_iff, Bool.or_eq_false_iff, Bool.or_eq_false_iff]
  refine ⟨?_, ⟨by simp [h2.1], by simp [h2.2]⟩, ?_, ?_⟩
  · by_cases z : a = 208
    · have : (j < 4 ∨ 9 < j) ∧ j ≠ 23 := by omega
      rw [decide_eq_false (by omega), show (j == 23) = false by simp [this.2]]; simp
    · simp [z]
  · by_cases z : a = 223
    · rw [decide_eq_false (by omega), Bool.and_false]
    · simp [z]
  · by_cases z : a = 224
    · rw [decide_eq_false (by omega), Bool.and_false]
    · simp [z]
theorem sRd_i {o c a j : Nat} (h : sRd o c a j = false) : (a ≠ 208 ∨ (j < 4 ∨ 9 < j) ∧ j ≠ 23) ∧ (a ≠ 220 ∧ a ≠ 222) ∧ (a ≠ 223 ∨ j ≤ o) ∧ (a ≠ 224 ∨ j < c) := by
  unfold sRd at h
  rw [Bool.or_eq_false_iff, Bool.or_eq_false_iff, Bool.or_eq_false_iff, Bool.or_eq_false_iff] at h
  obtain ⟨h1, ⟨h2, h3⟩, h4, h5⟩ := h
  refine ⟨?_, ⟨by intro q; subst q; simp at h2, by intro q; subst q; simp at h3⟩, ?_, ?_⟩
  · by_cases z : a = 208
    · subst z; simp at h1; omega
    · exact Or.inl z
  · by_cases z : a = 223
    · subst z; simp at h4; omega
    · exact Or.inl z
  · by_cases z : a = 224
    · subst z; simp at h5; omega
    · exact Or.inl z
theorem Fr.rdU {o c o' c' : Nat} {m m' : eM} (f : Fr (sRd o c) m m') (h1 : o' ≤ o) (h2 : c' ≤ c) : Fr (sRd o' c') m m' := f.up fun a j q => by
  obtain ⟨q1, q2, q3, q4⟩ := sRd_i q
  exact sRd_n q1 q2 (by omega) (by omega)
theorem Fr.tmR {o c : Nat} {m m' : eM} (f : Fr sTm m m') : Fr (sRd o c) m m' := f.up fun a j q => sTm_n (by have := (sRd_i q).1; omega)
def MaC (N : Nat → Nat) (n : Nat) (m : eM) : Prop := gI m 210 3 = nI n ∧ n ≤ 6 ∧ ∀ j, j < n → gL m 211 (18 + j) = lN (N j) ∧ N j < 27 ^ 8
/-- the reference reads: at the token found from b on, with codes C written -/
def QM (s : eTp) (N : Nat → Nat) (n b : Nat) (C : List Nat) (m : eM) : Prop := (Sk m ∧ TzM s m) ∧ TkM s b m ∧ (gI m 208 23 = nI C.length ∧ ∀ i, i < C.length → gI m 220 i = nI (C.getD i 0)) ∧ MaC N n m
theorem QM.sk {s : eTp} {N : Nat → Nat} {n b : Nat} {C : List Nat} {m : eM} (h : QM s N n b C m) : Sk m := h.1.1
theorem QM.nx {s : eTp} {N : Nat → Nat} {n b : Nat} {C : List Nat} {m : eM} (h : QM s N n b C m) (hb : b ≤ s.1) {D : Nat} (hD : 1 ≤ D) (o c : Nat) : ∃ m', Fr (sRd o c) m m' ∧ Mo_nextToken D 208 m = yV m' ∧ QM s N n (tX s b) C m' ∧ ∀ j, gI m' 223 j = gI m 223 j ∧ gI m' 224 j = gI m 224 j := by
  obtain ⟨⟨hs, ht⟩, hk, ⟨h2, h7⟩, ⟨p1, p2, p3⟩⟩ := h
  obtain ⟨m', f, e, k⟩ := Mo_nt_s hD (tX_le hb).2 hs ht hk.2.2.1
  exact ⟨m', f.tmR, e, ⟨⟨f.sk hs, ht.st f⟩, k, ⟨(f.1 _ _ (sTm_n (by omega))).trans h2, fun i hi => (f.1 _ _ (sTm_n (by omega))).trans (h7 i hi)⟩, (f.1 _ _ (sTm_n (by omega))).trans p1, p2, fun j hj => ⟨(f.2.1 _ _ (sTm_n (by omega))).trans (p3 j hj).1, (p3 j hj).2⟩⟩, fun j => ⟨f.1 _ _ (sTm_n (by omega)), f.1 _ _ (sTm_n (by omega))⟩⟩
theorem gD_snocN (L : List Nat) (x i : Nat) (h : i < L.length + 1) : (L ++ [x]).getD i 0 = if i = L.length then x else L.getD i 0 := by
  rw [List.getD_eq_getElem?_getD, List.getD_eq_getElem?_getD]
  by_cases z : i = L.length
  · rw [if_pos z, z]
    simp
  · rw [if_neg z, List.getElem?_append_left (by omega)]
theorem QM.fr {s : eTp} {N : Nat → Nat} {n b : Nat} {C : List Nat} {m m' : eM} (h : QM s N n b C m) (f : Fr (fun a _ => a == 223 || a == 224) m m') : QM s N n b C m' := by
  obtain ⟨⟨hs, ht⟩, hk, ⟨h2, h7⟩, ⟨p1, p2, p3⟩⟩ := h
  exact ⟨⟨f.sk hs, ht.fr f rfl (fun _ => rfl)⟩, hk.fr f (fun _ _ _ => rfl), ⟨(f.1 _ _ rfl).trans h2, fun i hi => (f.1 _ _ rfl).trans (h7 i hi)⟩, (f.1 _ _ rfl).trans p1, p2, fun j hj => ⟨(f.2.1 _ _ rfl).trans (p3 j hj).1, (p3 j hj).2⟩⟩
theorem QM.pt {s : eTp} {N : Nat → Nat} {n b : Nat} {C : List Nat} {m : eM} (h : QM s N n b C m) (hC : C.length < 1000) (d x o c : Nat) : ∃ m', Fr (sRd o c) m m' ∧ Mo_puts d 208 (nI x) m = yV m' ∧ QM s N n b (C ++ [x]) m' ∧ ∀ j, gI m' 223 j = gI m 223 j ∧ gI m' 224 j = gI m 224 j := by
  obtain ⟨⟨hs, ht⟩, hk, ⟨h2, h7⟩, ⟨p1, p2, p3⟩⟩ := h
  have f : Fr (fun a j => a == 220 || (a == 208 && j == 23)) m (sI (sI m 220 C.length (nI x)) 208 23 (nI (C.length + 1))) := (Fr.rfl'.i rfl).i rfl
  refine ⟨_, f.up fun a j q => ?_, ?_, ⟨⟨f.sk hs, ht.fr f rfl (fun _ => rfl)⟩, hk.fr f (fun j q1 q2 => ?_), ⟨?_, fun i hi => ?_⟩, (f.1 _ _ rfl).trans p1, p2, fun j hj => ⟨(f.2.1 _ _ rfl).trans (p3 j hj).1, (p3 j hj).2⟩⟩, fun j => ⟨f.1 _ _ rfl, f.1 _ _ rfl⟩⟩
  · obtain ⟨q1, q2, -, -⟩ := sRd_i q
    by_cases z : a = 208
    · have : j ≠ 23 := by omega
      simp [z, this]
    · simp [z, q2.1]
  · rw [Mo_puts_e _ _ _ _ kd_208, rf_208_20 hs, bR_s, h2, gw_220 hC, mI_u, n_cl (by omega), gI_sI, if_neg (by omega), h2, mI_u, nI_1]
  · have : j ≠ 23 := by omega
    simp [this]
  · rw [gI_w, List.length_append]; rfl
  · rw [List.length_append, List.length_cons, List.length_nil] at hi
    rw [gD_snocN C x i hi, gI_sI, if_neg (by omega), gI_sI]
    by_cases z : i = C.length
    · rw [if_pos ⟨rfl, z⟩, if_pos z]
    · rw [if_neg (fun q => z q.2), if_neg z]; exact h7 i (by omega)
theorem QM.sg {s : eTp} {N : Nat → Nat} {n b : Nat} {C : List Nat} {m : eM} (h : QM s N n b C m) {c : Nat} (hc : c < 128) (hg : sgn c = true) (d : Nat) : Mo_isSign d 208 (nI c) m = yI (bb (tkS s b c)) m := Mo_isSign_s h.1.1 h.1.2 h.2.1 hc hg d
theorem QM.wd {s : eTp} {N : Nat → Nat} {n b : Nat} {C : List Nat} {m : eM} (h : QM s N n b C m) {c : Nat} (hc : c < 27 ^ 8) (d : Nat) : Mo_isWord d 208 (lN c) m = yI (bb (tkW s b c)) m := Mo_isWord_s h.2.1 hc d
/-! the stack of what is open -/
def OpS (O : Nat → Nat) (dep : Nat) (m : eM) : Prop := ∀ j, 1 ≤ j → j ≤ dep → gI m 223 j = nI (O j) ∧ (O j = 1 ∨ O j = 2)
def popD (O : Nat → Nat) : Nat → Nat
  | 0 => 0
  | k + 1 => if O (k + 1) = 1 then popD O k else k + 1
theorem popD_le (O : Nat → Nat) : ∀ k, popD O k ≤ k
  | 0 => Nat.le_refl _
  | k + 1 => by
    unfold popD
    have := popD_le O k
    split <;> omega
theorem popD_c {O O' : Nat → Nat} : ∀ k, (∀ j, 1 ≤ j → j ≤ k → O' j = O j) → popD O' k = popD O k
  | 0, _ => rfl
  | k + 1, h => by
    unfold popD
    rw [h (k + 1) (by omega) (Nat.le_refl _), popD_c k fun j h1 h2 => h j h1 (by omega)]
theorem OpS.c {O O' : Nat → Nat} {dep : Nat} {m m' : eM} (h : OpS O dep m) (h1 : ∀ j, 1 ≤ j → j ≤ dep → O' j = O j) (h2 : ∀ j, j ≤ dep → gI m' 223 j = gI m 223 j) : OpS O' dep m' := fun j q1 q2 => by
  rw [h2 j q2, h1 j q1 q2]; exact h j q1 q2
theorem OpS.fr {O : Nat → Nat} {dep c : Nat} {m m' : eM} (h : OpS O dep m) (f : Fr (sRd dep c) m m') : OpS O dep m' := h.c (fun _ _ _ => rfl) fun j hj => f.1 _ _ (sRd_n (by omega) (by omega) (by omega) (by omega))
theorem Mo_203_s (d : Nat) {s : eTp} {N : Nat → Nat} {n b : Nat} {C : List Nat} {O : Nat → Nat} (hb : b ≤ s.1) (hd : 1 ≤ d) (x1 x3 x4 x5 x6 x7 : Int32) (o c : Nat) : ∀ dep m, dep ≤ 5 → QM s N n b C m → OpS O dep m → ∃ m', Fr (sRd o c) m m' ∧ Mo_reads_203 (d + 1) 208 x1 (nI dep) x3 x4 x5 x6 x7 m = Mo_reads_16 (d + 1) 208 x1 (nI (popD O dep)) x3 (.int x4) (.int x5) (.int x6) (.int x7) m' ∧ QM s N n (tX s b) C m' ∧ ∀ j, gI m' 223 j = gI m 223 j ∧ gI m' 224 j = gI m 224 j
  | 0, m, hp, h, ho => by
    obtain ⟨m1, f1, a1, q1, g1⟩ := h.nx hb hd o c
    refine ⟨m1, f1, ?_, q1, g1⟩
    rw [Mo_reads_203_e _ _ _ _ _ _ _ _ _ _ kd_208, if_pos (by decide), a1, bV_y]
    rfl
  | k + 1, m, hp, h, ho => by
    obtain ⟨o1, o2⟩ := ho (k + 1) (by omega) (Nat.le_refl _)
    rw [Mo_reads_203_e _ _ _ _ _ _ _ _ _ _ kd_208, if_neg (by rw [show (0 : Int32) = nI 0 from rfl, n_le (by omega) (by omega)]; omega), rf_208_24 h.sk, bR_s, ga_223 (by omega), n_cl (by omega), o1]
    unfold popD
    rcases o2 with z | z
    · rw [z, if_neg (show ¬ ¬ nI 1 = 1 from fun q => q rfl), if_pos rfl, n_m1 (Nat.succ_pos k)]
      exact Mo_203_s d hb hd x1 x3 x4 x5 x6 x7 o c k m (by omega) h fun j q1 q2 => ho j q1 (by omega)
    · obtain ⟨m1, f1, a1, q1, g1⟩ := h.nx hb hd o c
      rw [z, if_pos (show ¬ nI 2 = 1 by decide), if_neg (by decide), a1, bV_y]
      exact ⟨m1, f1, rfl, q1, g1⟩
theorem Mo_430_s (d : Nat) {s : eTp} {N : Nat → Nat} {n b : Nat} {C : List Nat} {O : Nat → Nat} (hb : b ≤ s.1) (hd : 1 ≤ d) (x1 x3 : Int32) (w4 w5 w6 w7 : Value) (o c : Nat) : ∀ dep m, dep ≤ 5 → QM s N n b C m → OpS O dep m → ∃ m', Fr (sRd o c) m m' ∧ Mo_reads_430 (d + 1) 208 x1 (nI dep) x3 w4 w5 w6 w7 m = Mo_reads_16 (d + 1) 208 x1 (nI (popD O dep)) x3 w4 w5 w6 w7 m' ∧ QM s N n (tX s b) C m' ∧ ∀ j, gI m' 223 j = gI m 223 j ∧ gI m' 224 j = gI m 224 j
  | 0, m, hp, h, ho => by
    obtain ⟨m1, f1, a1, q1, g1⟩ := h.nx hb hd o c
    refine ⟨m1, f1, ?_, q1, g1⟩
    rw [Mo_reads_430_e _ _ _ _ _ _ _ _ _ _ kd_208, if_pos (by decide), a1, bV_y]
    rfl
  | k + 1, m, hp, h, ho => by
    obtain ⟨o1, o2⟩ := ho (k + 1) (by omega) (Nat.le_refl _)
    rw [Mo_reads_430_e _ _ _ _ _ _ _ _ _ _ kd_208, if_neg (by rw [show (0 : Int32) = nI 0 from rfl, n_le (by omega) (by omega)]; omega), rf_208_24 h.sk, bR_s, ga_223 (by omega), n_cl (by omega), o1]
    unfold popD
    rcases o2 with z | z
    · rw [z, if_neg (show ¬ ¬ nI 1 = 1 from fun q => q rfl), if_pos rfl, n_m1 (Nat.succ_pos k)]
      exact Mo_430_s d hb hd x1 x3 w4 w5 w6 w7 o c k m (by omega) h fun j q1 q2 => ho j q1 (by omega)
    · obtain ⟨m1, f1, a1, q1, g1⟩ := h.nx hb hd o c
      rw [z, if_pos (show ¬ nI 2 = 1 by decide), if_neg (by decide), a1, bV_y]
      exact ⟨m1, f1, rfl, q1, g1⟩
/-! an operator -/
theorem tkS_1 {s : eTp} {b c c' : Nat} (h : tkS s b c = true) (hc : c ≠ c') : tkS s b c' = false := Bool.eq_false_iff.mpr fun q => hc ((tkS_k h).2.symm.trans (tkS_k q).2)
theorem tkW_1 {s : eTp} {b c c' : Nat} (h : tkW s b c = true) (hc : c ≠ c') : tkW s b c' = false := Bool.eq_false_iff.mpr fun q => hc ((tkW_k h).2.symm.trans (tkW_k q).2)
theorem tkWS {s : eTp} {b c c' : Nat} (h : tkW s b c = true) : tkS s b c' = false := Bool.eq_false_iff.mpr fun q => by have := (tkW_k h).1; have := (tkS_k q).1; omega
theorem opM_i {s : eTp} {b : Nat} {o : xOp} (h : opM s b = some o) : tkS s b 42 = true ∧ o = (-17, 22, fMul) := by
  unfold opM at h
  split at h
  · rename_i z; cases h; exact ⟨z, rfl⟩
  · cases h
theorem opA_i {s : eTp} {b : Nat} {o : xOp} (h : opA s b = some o) : tkS s b 43 = true ∧ o = (-15, 20, fAdd) ∨ tkS s b 45 = true ∧ o = (-16, 21, fSub) := by
  unfold opA at h
  split at h
  · rename_i z; cases h; exact Or.inl ⟨z, rfl⟩
  · split at h
    · rename_i z; cases h; exact Or.inr ⟨z, rfl⟩
    · cases h
theorem opC_i {s : eTp} {b : Nat} {o : xOp} (h : opC s b = some o) : tkS s b 60 = true ∧ o = (-13, 24, fLt) ∨ tkS s b 61 = true ∧ o = (-14, 25, fEq) := by
  unfold opC at h
  split at h
  · rename_i z; cases h; exact Or.inl ⟨z, rfl⟩
  · split at h
    · rename_i z; cases h; exact Or.inr ⟨z, rfl⟩
    · cases h
theorem opL_i {s : eTp} {b : Nat} {o : xOp} (h : opL s b = some o) : tkW s b 1111 = true ∧ o = (-11, 26, fAnd) ∨ tkW s b 423 = true ∧ o = (-12, 27, fOr) := by
  unfold opL at h
  split at h
  · rename_i z; cases h; exact Or.inl ⟨z, rfl⟩
  · split at h
    · rename_i z; cases h; exact Or.inr ⟨z, rfl⟩
    · cases h
theorem opM_n {s : eTp} {b : Nat} (h : opM s b = none) : tkS s b 42 = false := by
  cases z : tkS s b 42 with
  | false => rfl
  | true => unfold opM at h; rw [if_pos z] at h; cases h
theorem opA_n {s : eTp} {b : Nat} (h : opA s b = none) : tkS s b 43 = false ∧ tkS s b 45 = false := by
  unfold opA at h
  cases z : tkS s b 43 with
  | true => rw [if_pos z] at h; cases h
  | false =>
    cases y : tkS s b 45 with
    | true => rw [if_neg (by rw [z]; decide), if_pos y] at h; cases h
    | false => exact ⟨rfl, rfl⟩
theorem opC_n {s : eTp} {b : Nat} (h : opC s b = none) : tkS s b 60 = false ∧ tkS s b 61 = false := by
  unfold opC at h
  cases z : tkS s b 60 with
  | true => rw [if_pos z] at h; cases h
  | false =>
    cases y : tkS s b 61 with
    | true => rw [if_neg (by rw [z]; decide), if_pos y] at h; cases h
    | false => exact ⟨rfl, rfl⟩
theorem opL_n {s : eTp} {b : Nat} (h : opL s b = none) : tkW s b 1111 = false ∧ tkW s b 423 = false := by
  unfold opL at h
  cases z : tkW s b 1111 with
  | true => rw [if_pos z] at h; cases h
  | false =>
    cases y : tkW s b 423 with
    | true => rw [if_neg (by rw [z]; decide), if_pos y] at h; cases h
    | false => exact ⟨rfl, rfl⟩
theorem r31 : (43 : Int32) = nI 43 := rfl
theorem r32 : (45 : Int32) = nI 45 := rfl
theorem r33 : (42 : Int32) = nI 42 := rfl
theorem r34 : (60 : Int32) = nI 60 := rfl
theorem r35 : (61 : Int32) = nI 61 := rfl
theorem r36 : (41 : Int32) = nI 41 := rfl
theorem r37 : (40 : Int32) = nI 40 := rfl
theorem r38 : (59 : Int32) = nI 59 := rfl
theorem r41 : (1111 : Int64) = lN 1111 := rfl
theorem r42 : (423 : Int64) = lN 423 := rfl
theorem r43 : (10631 : Int64) = lN 10631 := rfl
/-- what an operator does: its code, and the next token -/
def StpR (s : eTp) (N : Nat → Nat) (n d : Nat) (x1 : Int32) (dep : Nat) (b : Nat) (C : List Nat) (x : Nat) (o c : Nat) (m : eM) (R : oX) (w4 w5 w6 w7 : Value) (k : Int32) : Prop := ∃ m', Fr (sRd o c) m m' ∧ R = Mo_reads_16 (d + 1) 208 x1 (nI dep) 1 w4 w5 w6 w7 m' ∧ QM s N n (tX s b) (C ++ [x]) m' ∧ (∀ j, gI m' 223 j = gI m 223 j) ∧ gI m' 224 dep = k
theorem Mo_257_s (d : Nat) {s : eTp} {N : Nat → Nat} {n b : Nat} {C : List Nat} {m : eM} (h : QM s N n b C m) (hb : b ≤ s.1) (hC : C.length < 1000) (hd : 1 ≤ d) (x1 : Int32) (dep o : Nat) (w4 w5 w6 w7 : Value) (x : Nat) (hx : tkS s b 42 = true ∧ x = 22 ∨ tkS s b 43 = true ∧ x = 20 ∨ tkS s b 45 = true ∧ x = 21) : StpR s N n d x1 dep b C x o (dep + 1) m (Mo_reads_257 (d + 1) 208 x1 (nI dep) 0 w4 w5 w6 w7 m) w4 w5 w6 w7 (gI m 224 dep) := by
  obtain ⟨m1, f1, a1, q1, g1⟩ := h.pt hC d x o (dep + 1)
  obtain ⟨m2, f2, a2, q2, g2⟩ := q1.nx hb hd o (dep + 1)
  refine ⟨m2, f1.tr f2, ?_, q2, fun j => (g2 j).1.trans (g1 j).1, (g2 dep).2.trans (g1 dep).2⟩
  rw [Mo_reads_257_e _ _ _ _ _ _ _ _ _ _ kd_208, r31, h.sg (by decide) rfl, bI_y, r32]
  rcases hx with ⟨z, rfl⟩ | ⟨z, rfl⟩ | ⟨z, rfl⟩
  · rw [tkS_1 z (by decide), if_pos bf0, h.sg (by decide) rfl, bI_y, tkS_1 z (by decide), if_pos bf0, show (22 : Int32) = nI 22 from rfl, a1, bV_y, a2, bV_y]
  · rw [z, if_neg bt0, show (20 : Int32) = nI 20 from rfl, a1, bV_y, a2, bV_y]
  · rw [tkS_1 z (by decide), if_pos bf0, h.sg (by decide) rfl, bI_y, z, if_neg bt0, show (21 : Int32) = nI 21 from rfl, a1, bV_y, a2, bV_y]
theorem stp_M (d : Nat) {s : eTp} {N : Nat → Nat} {n b : Nat} {C : List Nat} {m : eM} (h : QM s N n b C m) (hb : b ≤ s.1) (hC : C.length < 1000) (hd : 1 ≤ d) (x1 : Int32) (dep o : Nat) (w4 w5 w6 w7 : Value) {q : xOp} (hq : opM s b = some q) : StpR s N n d x1 dep b C q.2.1 o (dep + 1) m (Mo_reads_16 (d + 1) 208 x1 (nI dep) 0 w4 w5 w6 w7 m) w4 w5 w6 w7 (gI m 224 dep) := by
  obtain ⟨z, rfl⟩ := opM_i hq
  rw [Mo_reads_16_e _ _ _ _ _ _ _ _ _ _ kd_208, if_pos rfl, r31, r32, r33, h.sg (by decide) rfl, bI_y, tkS_1 z (by decide), if_neg nbf0, h.sg (by decide) rfl, bI_y, tkS_1 z (by decide), if_neg nbf0, h.sg (by decide) rfl, bI_y, z, if_neg bt0]
  exact Mo_257_s d h hb hC hd x1 dep o w4 w5 w6 w7 22 (Or.inl ⟨z, rfl⟩)
theorem stp_A (d : Nat) {s : eTp} {N : Nat → Nat} {n b : Nat} {C : List Nat} {m : eM} (h : QM s N n b C m) (hb : b ≤ s.1) (hC : C.length < 1000) (hd : 1 ≤ d) (x1 : Int32) (dep o : Nat) (w4 w5 w6 w7 : Value) {q : xOp} (hq : opA s b = some q) : StpR s N n d x1 dep b C q.2.1 o (dep + 1) m (Mo_reads_16 (d + 1) 208 x1 (nI dep) 0 w4 w5 w6 w7 m) w4 w5 w6 w7 (gI m 224 dep) := by
  rw [Mo_reads_16_e _ _ _ _ _ _ _ _ _ _ kd_208, if_pos rfl, r31, r32, h.sg (by decide) rfl, bI_y]
  rcases opA_i hq with ⟨z, rfl⟩ | ⟨z, rfl⟩
  · rw [z, if_pos bt0]
    exact Mo_257_s d h hb hC hd x1 dep o w4 w5 w6 w7 20 (Or.inr (Or.inl ⟨z, rfl⟩))
  · rw [tkS_1 z (by decide), if_neg nbf0, h.sg (by decide) rfl, bI_y, z, if_pos bt0]
    exact Mo_257_s d h hb hC hd x1 dep o w4 w5 w6 w7 21 (Or.inr (Or.inr ⟨z, rfl⟩))
theorem wr224 {s : eTp} {N : Nat → Nat} {n b : Nat} {C : List Nat} {m : eM} (h : QM s N n b C m) (o dep : Nat) (x : Int32) : Fr (sRd o dep) m (sI m 224 dep x) ∧ QM s N n b C (sI m 224 dep x) ∧ (∀ j, gI (sI m 224 dep x) 223 j = gI m 223 j) ∧ gI (sI m 224 dep x) 224 dep = x := by
  have f : Fr (fun a _ => a == 223 || a == 224) m (sI m 224 dep x) := Fr.rfl'.i rfl
  exact ⟨Fr.rfl'.i (by unfold sRd; simp), h.fr f, fun j => rfl, gI_w _ _ _ _⟩
theorem stp_C (d : Nat) {s : eTp} {N : Nat → Nat} {n b : Nat} {C : List Nat} {m : eM} (h : QM s N n b C m) (hb : b ≤ s.1) (hC : C.length < 1000) (hd : 1 ≤ d) (x1 : Int32) (dep o : Nat) (hdp : dep ≤ 5) (h0 : gI m 224 dep = 0) (w4 w5 w6 w7 : Value) {q : xOp} (hq : opC s b = some q) : StpR s N n d x1 dep b C q.2.1 o dep m (Mo_reads_16 (d + 1) 208 x1 (nI dep) 0 w4 w5 w6 w7 m) w4 w5 w6 w7 1 := by
  obtain ⟨m1, f1, a1, q1, g1⟩ := h.pt hC d q.2.1 o dep
  obtain ⟨f2, q2, g2, g2'⟩ := wr224 q1 o dep 1
  obtain ⟨m3, f3, a3, q3, g3⟩ := q2.nx hb hd o dep
  refine ⟨m3, (f1.tr f2).tr f3, ?_, q3, fun j => (g3 j).1.trans ((g2 j).trans (g1 j).1), (g3 dep).2.trans g2'⟩
  have no : tkS s b 43 = false ∧ tkS s b 45 = false ∧ tkS s b 42 = false := by
    rcases opC_i hq with ⟨z, rfl⟩ | ⟨z, rfl⟩ <;> exact ⟨tkS_1 z (by decide), tkS_1 z (by decide), tkS_1 z (by decide)⟩
  have e314 : Mo_reads_314 (d + 1) 208 x1 (nI dep) 0 w4 w5 w6 w7 m = Mo_reads_16 (d + 1) 208 x1 (nI dep) 1 w4 w5 w6 w7 m3 := by
    rw [Mo_reads_314_e _ _ _ _ _ _ _ _ _ _ kd_208, rf_208_25 h.sk, bR_s, ga_224 (by omega), n_cl (by omega), h0, if_neg (fun q => q rfl), r34, h.sg (by decide) rfl, bI_y]
    rcases opC_i hq with ⟨z, rfl⟩ | ⟨z, rfl⟩
    · have a1 : Mo_puts d 208 24 m = yV m1 := a1
      rw [z, if_neg bt0, a1, bV_y, rf_208_25 q1.sk, bR_s, gw_224 (by omega), mI_u]
      show (bV (Mo_nextToken d 208 (sI m1 224 dep 1)) fun m11 => _) = _
      rw [a3, bV_y]
    · have a1 : Mo_puts d 208 25 m = yV m1 := a1
      rw [tkS_1 z (by decide), if_pos bf0, a1, bV_y, rf_208_25 q1.sk, bR_s, gw_224 (by omega), mI_u]
      show (bV (Mo_nextToken d 208 (sI m1 224 dep 1)) fun m11 => _) = _
      rw [a3, bV_y]
  rw [← e314, Mo_reads_16_e _ _ _ _ _ _ _ _ _ _ kd_208, if_pos rfl, r31, r32, r33, r34, r35, h.sg (by decide) rfl, bI_y, no.1, if_neg nbf0, h.sg (by decide) rfl, bI_y, no.2.1, if_neg nbf0, h.sg (by decide) rfl, bI_y, no.2.2, if_pos bf0, h.sg (by decide) rfl, bI_y]
  rcases opC_i hq with ⟨z, rfl⟩ | ⟨z, rfl⟩
  · rw [z, if_pos bt0]
  · rw [tkS_1 z (by decide), if_neg nbf0, h.sg (by decide) rfl, bI_y, z, if_neg bt0]
theorem stp_L (d : Nat) {s : eTp} {N : Nat → Nat} {n b : Nat} {C : List Nat} {m : eM} (h : QM s N n b C m) (hb : b ≤ s.1) (hC : C.length < 1000) (hd : 1 ≤ d) (x1 : Int32) (dep o : Nat) (hdp : dep ≤ 5) (w4 w5 w6 w7 : Value) {q : xOp} (hq : opL s b = some q) : StpR s N n d x1 dep b C q.2.1 o dep m (Mo_reads_16 (d + 1) 208 x1 (nI dep) 0 w4 w5 w6 w7 m) w4 w5 w6 w7 0 := by
  obtain ⟨m1, f1, a1, q1, g1⟩ := h.pt hC d q.2.1 o dep
  obtain ⟨f2, q2, g2, g2'⟩ := wr224 q1 o dep 0
  obtain ⟨m3, f3, a3, q3, g3⟩ := q2.nx hb hd o dep
  refine ⟨m3, (f1.tr f2).tr f3, ?_, q3, fun j => (g3 j).1.trans ((g2 j).trans (g1 j).1), (g3 dep).2.trans g2'⟩
  have e375 : Mo_reads_375 (d + 1) 208 x1 (nI dep) 0 w4 w5 w6 w7 m = Mo_reads_16 (d + 1) 208 x1 (nI dep) 1 w4 w5 w6 w7 m3 := by
    rw [Mo_reads_375_e _ _ _ _ _ _ _ _ _ _ kd_208, r41, h.wd (by decide), bI_y]
    rcases opL_i hq with ⟨z, rfl⟩ | ⟨z, rfl⟩
    · have a1 : Mo_puts d 208 26 m = yV m1 := a1
      rw [z, if_neg bt0, a1, bV_y, rf_208_25 q1.sk, bR_s, gw_224 (by omega), mI_u, n_cl (by omega)]
      show (bV (Mo_nextToken d 208 (sI m1 224 dep 0)) fun m11 => _) = _
      rw [a3, bV_y]
    · have a1 : Mo_puts d 208 27 m = yV m1 := a1
      rw [tkW_1 z (by decide), if_pos bf0, a1, bV_y, rf_208_25 q1.sk, bR_s, gw_224 (by omega), mI_u, n_cl (by omega)]
      show (bV (Mo_nextToken d 208 (sI m1 224 dep 0)) fun m11 => _) = _
      rw [a3, bV_y]
  have no : ∀ c, tkS s b c = false := fun c => by
    rcases opL_i hq with ⟨z, rfl⟩ | ⟨z, rfl⟩ <;> exact tkWS z
  rw [← e375, Mo_reads_16_e _ _ _ _ _ _ _ _ _ _ kd_208, if_pos rfl, r31, r32, r33, r34, r35, h.sg (by decide) rfl, bI_y, no, if_neg nbf0, h.sg (by decide) rfl, bI_y, no, if_neg nbf0, h.sg (by decide) rfl, bI_y, no, if_pos bf0, h.sg (by decide) rfl, bI_y, no, if_neg nbf0, h.sg (by decide) rfl, bI_y, no, if_pos bf0, Mo_reads_355_e _ _ _ _ _ _ _ _ _ _ kd_208, r41, h.wd (by decide), bI_y]
  rcases opL_i hq with ⟨z, rfl⟩ | ⟨z, rfl⟩
  · rw [z, if_pos bt0]
  · rw [tkW_1 z (by decide), if_neg nbf0, r42, h.wd (by decide), bI_y, z, if_neg bt0]
/-- no operator goes on here -/
theorem stp_N (d : Nat) {s : eTp} {N : Nat → Nat} {n b : Nat} {C : List Nat} {m : eM} (h : QM s N n b C m) (x1 : Int32) (dep : Nat) (hdp : dep ≤ 5) (w4 w5 w6 w7 : Value) (hM : opM s b = none) (hA : opA s b = none) (hL : opL s b = none) (hC : opC s b = none ∨ gI m 224 dep = 1) : Mo_reads_16 (d + 1) 208 x1 (nI dep) 0 w4 w5 w6 w7 m = if tkS s b 41 = true ∧ 0 < dep then (bV (Mo_puts d 208 (29 : Int32) m) fun m7 => Mo_reads_430 (d + 1) 208 x1 (nI dep + (-1 : Int32)) 0 w4 w5 w6 w7 m7) else Mo_reads_450 (d + 1) 208 x1 (nI dep) 0 w4 w5 w6 w7 m := by
  obtain ⟨l1, l2⟩ := opL_n hL
  have e355 : Mo_reads_355 (d + 1) 208 x1 (nI dep) 0 w4 w5 w6 w7 m = if tkS s b 41 = true ∧ 0 < dep then (bV (Mo_puts d 208 (29 : Int32) m) fun m7 => Mo_reads_430 (d + 1) 208 x1 (nI dep + (-1 : Int32)) 0 w4 w5 w6 w7 m7) else Mo_reads_450 (d + 1) 208 x1 (nI dep) 0 w4 w5 w6 w7 m := by
    rw [Mo_reads_355_e _ _ _ _ _ _ _ _ _ _ kd_208, r41, h.wd (by decide), bI_y, l1, if_neg nbf0, r42, h.wd (by decide), bI_y, l2, if_pos bf0, r36, h.sg (by decide) rfl, bI_y]
    by_cases z : tkS s b 41 = true
    · rw [z, if_neg bt0]
      by_cases y : 0 < dep
      · rw [if_neg (by rw [show (0 : Int32) = nI 0 from rfl, n_le (by omega) (by omega)]; omega), if_pos ⟨rfl, y⟩]
      · rw [if_pos (by rw [show (0 : Int32) = nI 0 from rfl, n_le (by omega) (by omega)]; omega), if_neg (fun q => y q.2)]
    · rw [Bool.eq_false_iff.mpr z, if_pos bf0, if_neg (fun q => by cases q.1)]
  have e314 : gI m 224 dep = 1 → Mo_reads_314 (d + 1) 208 x1 (nI dep) 0 w4 w5 w6 w7 m = Mo_reads_355 (d + 1) 208 x1 (nI dep) 0 w4 w5 w6 w7 m := fun q => by
    rw [Mo_reads_314_e _ _ _ _ _ _ _ _ _ _ kd_208, rf_208_25 h.sk, bR_s, ga_224 (by omega), n_cl (by omega), q, if_pos (by decide)]
  rw [← e355, Mo_reads_16_e _ _ _ _ _ _ _ _ _ _ kd_208, if_pos rfl, r31, r32, r33, r34, r35, h.sg (by decide) rfl, bI_y, (opA_n hA).1, if_neg nbf0, h.sg (by decide) rfl, bI_y, (opA_n hA).2, if_neg nbf0, h.sg (by decide) rfl, bI_y, opM_n hM, if_pos bf0, h.sg (by decide) rfl, bI_y]
  by_cases z : tkS s b 60 = true
  · rcases hC with y | y
    · rw [(opC_n y).1] at z; cases z
    · rw [z, if_pos bt0, e314 y]
  · rw [Bool.eq_false_iff.mpr z, if_neg nbf0, h.sg (by decide) rfl, bI_y]
    by_cases z2 : tkS s b 61 = true
    · rcases hC with y | y
      · rw [(opC_n y).2] at z2; cases z2
      · rw [z2, if_neg bt0, e314 y]
    · rw [Bool.eq_false_iff.mpr z2, if_pos bf0]
