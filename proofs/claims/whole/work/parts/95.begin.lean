/-! ===== parish: the class ===== -/
theorem nA_y {m : eM} {t n : Nat} {K : Nat → eM → oX} (h : kk (gX m) = (t, n)) (hn : n ≤ 100000) : nA m t (nI n) K = K (gX m) (sN m n) := by
  unfold nA
  rw [n_cl (by omega)]
  exact if_pos ⟨(kk_l h).1, (kk_l h).2, nI_pos (by omega), by rw [show (100000 : Int32) = nI 100000 from rfl, n_le (by omega) (by omega)]; exact hn⟩
theorem nw_y {m : eM} {n c : Nat} {K : Nat → eM → oX} (h : kd (gX m) = c) : nw m n c K = K (gX m) (sN m n) := if_pos h
def inM (P n j : Nat) (m : eM) : eM := sR (sN m n) P j (some (gX m))
theorem inM_R (P n j : Nat) (m : eM) (a k : Nat) : gR (inM P n j m) a k = if a = P ∧ k = j then some (gX m) else gR m a k := rfl
/-- a fresh parish is made at P -/
theorem Pa_init_s {P : Nat} (hP : stP P) {m : eM} (hX : gX m = P + 1) {D : Nat} (hD : 1 ≤ D) : ∃ m', Pa_init D P m = yV m' ∧ PaR P m' ∧ (∀ a j, gI m' a j = gI m a j) ∧ (∀ a j, gL m' a j = if a = P ∧ j = 15 then 1 else gL m a j) ∧ (∀ a j, a ≠ P → gR m' a j = gR m a j) ∧ gX m' = P + 12 ∧ gH m' = gH m + 11 ∧ gS m' = gS m + 54 ∧ gN m' = gN m := by
  obtain ⟨d, rfl⟩ : ∃ d, D = d + 1 := ⟨D - 1, by omega⟩
  obtain ⟨h0, k0, k1, k2, k3, k4, k5, k6, k7, k8, k9, k10, k11⟩ := hP
  obtain ⟨m1, hm1⟩ : ∃ m1, m1 = inM P 6 4 m := ⟨_, rfl⟩
  have x1 : gX m1 = P + 2 := by rw [hm1]; show gX m + 1 = _; rw [hX]
  have r1 : ∀ a j, gR m1 a j = if a = P ∧ j = 4 then some (P + 1) else gR m a j := fun a j => by rw [hm1, inM_R, hX]
  have s1 : gH m1 = gH m + 1 ∧ gS m1 = gS m + 6 ∧ (∀ a j, gI m1 a j = gI m a j) ∧ ∀ a j, gL m1 a j = gL m a j := by rw [hm1]; exact ⟨rfl, rfl, fun _ _ => rfl, fun _ _ => rfl⟩
  obtain ⟨m2, hm2⟩ : ∃ m2, m2 = inM P 6 5 m1 := ⟨_, rfl⟩
  have x2 : gX m2 = P + 3 := by rw [hm2]; show gX m1 + 1 = _; rw [x1]
  have r2 : ∀ a j, gR m2 a j = if a = P ∧ j = 5 then some (P + 2) else gR m1 a j := fun a j => by rw [hm2, inM_R, x1]
  have s2 : gH m2 = gH m1 + 1 ∧ gS m2 = gS m1 + 6 ∧ (∀ a j, gI m2 a j = gI m1 a j) ∧ ∀ a j, gL m2 a j = gL m1 a j := by rw [hm2]; exact ⟨rfl, rfl, fun _ _ => rfl, fun _ _ => rfl⟩
  obtain ⟨m3, hm3⟩ : ∃ m3, m3 = inM P 6 6 m2 := ⟨_, rfl⟩
  have x3 : gX m3 = P + 4 := by rw [hm3]; show gX m2 + 1 = _; rw [x2]
  have r3 : ∀ a j, gR m3 a j = if a = P ∧ j = 6 then some (P + 3) else gR m2 a j := fun a j => by rw [hm3, inM_R, x2]
  have s3 : gH m3 = gH m2 + 1 ∧ gS m3 = gS m2 + 6 ∧ (∀ a j, gI m3 a j = gI m2 a j) ∧ ∀ a j, gL m3 a j = gL m2 a j := by rw [hm3]; exact ⟨rfl, rfl, fun _ _ => rfl, fun _ _ => rfl⟩
  obtain ⟨m4, hm4⟩ : ∃ m4, m4 = inM P 6 7 m3 := ⟨_, rfl⟩
  have x4 : gX m4 = P + 5 := by rw [hm4]; show gX m3 + 1 = _; rw [x3]
  have r4 : ∀ a j, gR m4 a j = if a = P ∧ j = 7 then some (P + 4) else gR m3 a j := fun a j => by rw [hm4, inM_R, x3]
  have s4 : gH m4 = gH m3 + 1 ∧ gS m4 = gS m3 + 6 ∧ (∀ a j, gI m4 a j = gI m3 a j) ∧ ∀ a j, gL m4 a j = gL m3 a j := by rw [hm4]; exact ⟨rfl, rfl, fun _ _ => rfl, fun _ _ => rfl⟩
  obtain ⟨m5, hm5⟩ : ∃ m5, m5 = inM P 6 8 m4 := ⟨_, rfl⟩
  have x5 : gX m5 = P + 6 := by rw [hm5]; show gX m4 + 1 = _; rw [x4]
  have r5 : ∀ a j, gR m5 a j = if a = P ∧ j = 8 then some (P + 5) else gR m4 a j := fun a j => by rw [hm5, inM_R, x4]
  have s5 : gH m5 = gH m4 + 1 ∧ gS m5 = gS m4 + 6 ∧ (∀ a j, gI m5 a j = gI m4 a j) ∧ ∀ a j, gL m5 a j = gL m4 a j := by rw [hm5]; exact ⟨rfl, rfl, fun _ _ => rfl, fun _ _ => rfl⟩
  obtain ⟨m6, hm6⟩ : ∃ m6, m6 = inM P 6 9 m5 := ⟨_, rfl⟩
  have x6 : gX m6 = P + 7 := by rw [hm6]; show gX m5 + 1 = _; rw [x5]
  have r6 : ∀ a j, gR m6 a j = if a = P ∧ j = 9 then some (P + 6) else gR m5 a j := fun a j => by rw [hm6, inM_R, x5]
  have s6 : gH m6 = gH m5 + 1 ∧ gS m6 = gS m5 + 6 ∧ (∀ a j, gI m6 a j = gI m5 a j) ∧ ∀ a j, gL m6 a j = gL m5 a j := by rw [hm6]; exact ⟨rfl, rfl, fun _ _ => rfl, fun _ _ => rfl⟩
  obtain ⟨m7, hm7⟩ : ∃ m7, m7 = inM P 6 10 m6 := ⟨_, rfl⟩
  have x7 : gX m7 = P + 8 := by rw [hm7]; show gX m6 + 1 = _; rw [x6]
  have r7 : ∀ a j, gR m7 a j = if a = P ∧ j = 10 then some (P + 7) else gR m6 a j := fun a j => by rw [hm7, inM_R, x6]
  have s7 : gH m7 = gH m6 + 1 ∧ gS m7 = gS m6 + 6 ∧ (∀ a j, gI m7 a j = gI m6 a j) ∧ ∀ a j, gL m7 a j = gL m6 a j := by rw [hm7]; exact ⟨rfl, rfl, fun _ _ => rfl, fun _ _ => rfl⟩
  obtain ⟨m8, hm8⟩ : ∃ m8, m8 = inM P 6 11 m7 := ⟨_, rfl⟩
  have x8 : gX m8 = P + 9 := by rw [hm8]; show gX m7 + 1 = _; rw [x7]
  have r8 : ∀ a j, gR m8 a j = if a = P ∧ j = 11 then some (P + 8) else gR m7 a j := fun a j => by rw [hm8, inM_R, x7]
  have s8 : gH m8 = gH m7 + 1 ∧ gS m8 = gS m7 + 6 ∧ (∀ a j, gI m8 a j = gI m7 a j) ∧ ∀ a j, gL m8 a j = gL m7 a j := by rw [hm8]; exact ⟨rfl, rfl, fun _ _ => rfl, fun _ _ => rfl⟩
  obtain ⟨m9, hm9⟩ : ∃ m9, m9 = inM P 2 12 m8 := ⟨_, rfl⟩
  have x9 : gX m9 = P + 10 := by rw [hm9]; show gX m8 + 1 = _; rw [x8]
  have r9 : ∀ a j, gR m9 a j = if a = P ∧ j = 12 then some (P + 9) else gR m8 a j := fun a j => by rw [hm9, inM_R, x8]
  have s9 : gH m9 = gH m8 + 1 ∧ gS m9 = gS m8 + 2 ∧ (∀ a j, gI m9 a j = gI m8 a j) ∧ ∀ a j, gL m9 a j = gL m8 a j := by rw [hm9]; exact ⟨rfl, rfl, fun _ _ => rfl, fun _ _ => rfl⟩
  obtain ⟨m10, hm10⟩ : ∃ m10, m10 = inM P 2 13 m9 := ⟨_, rfl⟩
  have x10 : gX m10 = P + 11 := by rw [hm10]; show gX m9 + 1 = _; rw [x9]
  have r10 : ∀ a j, gR m10 a j = if a = P ∧ j = 13 then some (P + 10) else gR m9 a j := fun a j => by rw [hm10, inM_R, x9]
  have s10 : gH m10 = gH m9 + 1 ∧ gS m10 = gS m9 + 2 ∧ (∀ a j, gI m10 a j = gI m9 a j) ∧ ∀ a j, gL m10 a j = gL m9 a j := by rw [hm10]; exact ⟨rfl, rfl, fun _ _ => rfl, fun _ _ => rfl⟩
  obtain ⟨m11, hm11⟩ : ∃ m11, m11 = inM P 2 14 m10 := ⟨_, rfl⟩
  have x11 : gX m11 = P + 12 := by rw [hm11]; show gX m10 + 1 = _; rw [x10]
  have r11 : ∀ a j, gR m11 a j = if a = P ∧ j = 14 then some (P + 11) else gR m10 a j := fun a j => by rw [hm11, inM_R, x10]
  have s11 : gH m11 = gH m10 + 1 ∧ gS m11 = gS m10 + 2 ∧ (∀ a j, gI m11 a j = gI m10 a j) ∧ ∀ a j, gL m11 a j = gL m10 a j := by rw [hm11]; exact ⟨rfl, rfl, fun _ _ => rfl, fun _ _ => rfl⟩
  have gIe : ∀ a j, gI m11 a j = gI m a j := fun a j => by rw [s11.2.2.1, s10.2.2.1, s9.2.2.1, s8.2.2.1, s7.2.2.1, s6.2.2.1, s5.2.2.1, s4.2.2.1, s3.2.2.1, s2.2.2.1, s1.2.2.1]
  have gLe : ∀ a j, gL m11 a j = gL m a j := fun a j => by rw [s11.2.2.2, s10.2.2.2, s9.2.2.2, s8.2.2.2, s7.2.2.2, s6.2.2.2, s5.2.2.2, s4.2.2.2, s3.2.2.2, s2.2.2.2, s1.2.2.2]
  have gRe : ∀ a j, a ≠ P → gR m11 a j = gR m a j := fun a j q => by rw [r11, if_neg (fun z => q z.1), r10, if_neg (fun z => q z.1), r9, if_neg (fun z => q z.1), r8, if_neg (fun z => q z.1), r7, if_neg (fun z => q z.1), r6, if_neg (fun z => q z.1), r5, if_neg (fun z => q z.1), r4, if_neg (fun z => q z.1), r3, if_neg (fun z => q z.1), r2, if_neg (fun z => q z.1), r1, if_neg (fun z => q z.1)]
  have pr : PaR P m11 := by
    refine ⟨?_, ?_, ?_, ?_, ?_, ?_, ?_, ?_, ?_, ?_, ?_⟩
    · rw [r11, if_neg (by omega), r10, if_neg (by omega), r9, if_neg (by omega), r8, if_neg (by omega), r7, if_neg (by omega), r6, if_neg (by omega), r5, if_neg (by omega), r4, if_neg (by omega), r3, if_neg (by omega), r2, if_neg (by omega), r1, if_pos ⟨rfl, rfl⟩]
    · rw [r11, if_neg (by omega), r10, if_neg (by omega), r9, if_neg (by omega), r8, if_neg (by omega), r7, if_neg (by omega), r6, if_neg (by omega), r5, if_neg (by omega), r4, if_neg (by omega), r3, if_neg (by omega), r2, if_pos ⟨rfl, rfl⟩]
    · rw [r11, if_neg (by omega), r10, if_neg (by omega), r9, if_neg (by omega), r8, if_neg (by omega), r7, if_neg (by omega), r6, if_neg (by omega), r5, if_neg (by omega), r4, if_neg (by omega), r3, if_pos ⟨rfl, rfl⟩]
    · rw [r11, if_neg (by omega), r10, if_neg (by omega), r9, if_neg (by omega), r8, if_neg (by omega), r7, if_neg (by omega), r6, if_neg (by omega), r5, if_neg (by omega), r4, if_pos ⟨rfl, rfl⟩]
    · rw [r11, if_neg (by omega), r10, if_neg (by omega), r9, if_neg (by omega), r8, if_neg (by omega), r7, if_neg (by omega), r6, if_neg (by omega), r5, if_pos ⟨rfl, rfl⟩]
    · rw [r11, if_neg (by omega), r10, if_neg (by omega), r9, if_neg (by omega), r8, if_neg (by omega), r7, if_neg (by omega), r6, if_pos ⟨rfl, rfl⟩]
    · rw [r11, if_neg (by omega), r10, if_neg (by omega), r9, if_neg (by omega), r8, if_neg (by omega), r7, if_pos ⟨rfl, rfl⟩]
    · rw [r11, if_neg (by omega), r10, if_neg (by omega), r9, if_neg (by omega), r8, if_pos ⟨rfl, rfl⟩]
    · rw [r11, if_neg (by omega), r10, if_neg (by omega), r9, if_pos ⟨rfl, rfl⟩]
    · rw [r11, if_neg (by omega), r10, if_pos ⟨rfl, rfl⟩]
    · rw [r11, if_pos ⟨rfl, rfl⟩]
  refine ⟨sL m11 P 15 1, ?_, pr, gIe, fun a j => ?_, gRe, x11, ?_, ?_, ?_⟩
  · rw [Pa_init_e _ _ _ (kd_of k0), show (6 : Int32) = nI 6 from rfl, show (2 : Int32) = nI 2 from rfl, nA_y (show kk (gX m) = _ by rw [hX]; exact k1) (by decide), mQ_u, show sR (sN m 6) P 4 (some (gX m)) = m1 from hm1.symm, nA_y (show kk (gX m1) = _ by rw [x1]; exact k2) (by decide), mQ_u, show sR (sN m1 6) P 5 (some (gX m1)) = m2 from hm2.symm, nA_y (show kk (gX m2) = _ by rw [x2]; exact k3) (by decide), mQ_u, show sR (sN m2 6) P 6 (some (gX m2)) = m3 from hm3.symm, nA_y (show kk (gX m3) = _ by rw [x3]; exact k4) (by decide), mQ_u, show sR (sN m3 6) P 7 (some (gX m3)) = m4 from hm4.symm, nA_y (show kk (gX m4) = _ by rw [x4]; exact k5) (by decide), mQ_u, show sR (sN m4 6) P 8 (some (gX m4)) = m5 from hm5.symm, nA_y (show kk (gX m5) = _ by rw [x5]; exact k6) (by decide), mQ_u, show sR (sN m5 6) P 9 (some (gX m5)) = m6 from hm6.symm, nA_y (show kk (gX m6) = _ by rw [x6]; exact k7) (by decide), mQ_u, show sR (sN m6 6) P 10 (some (gX m6)) = m7 from hm7.symm, nA_y (show kk (gX m7) = _ by rw [x7]; exact k8) (by decide), mQ_u, show sR (sN m7 6) P 11 (some (gX m7)) = m8 from hm8.symm, nA_y (show kk (gX m8) = _ by rw [x8]; exact k9) (by decide), mQ_u, show sR (sN m8 2) P 12 (some (gX m8)) = m9 from hm9.symm, nA_y (show kk (gX m9) = _ by rw [x9]; exact k10) (by decide), mQ_u, show sR (sN m9 2) P 13 (some (gX m9)) = m10 from hm10.symm, nA_y (show kk (gX m10) = _ by rw [x10]; exact k11) (by decide), mQ_u, show sR (sN m10 2) P 14 (some (gX m10)) = m11 from hm11.symm, mJ_u]
  · rw [gL_sL]
    by_cases z : a = P ∧ j = 15
    · rw [if_pos z, if_pos z]
    · rw [if_neg z, if_neg z, gLe]
  · show gH m11 = _
    rw [s11.1, s10.1, s9.1, s8.1, s7.1, s6.1, s5.1, s4.1, s3.1, s2.1, s1.1]
  · show gS m11 = _
    rw [s11.2.1, s10.2.1, s9.2.1, s8.2.1, s7.2.1, s6.2.1, s5.2.1, s4.2.1, s3.2.1, s2.2.1, s1.2.1]
  · have n1 : gN m1 = gN m := by rw [hm1]; rfl
    have n2 : gN m2 = gN m1 := by rw [hm2]; rfl
    have n3 : gN m3 = gN m2 := by rw [hm3]; rfl
    have n4 : gN m4 = gN m3 := by rw [hm4]; rfl
    have n5 : gN m5 = gN m4 := by rw [hm5]; rfl
    have n6 : gN m6 = gN m5 := by rw [hm6]; rfl
    have n7 : gN m7 = gN m6 := by rw [hm7]; rfl
    have n8 : gN m8 = gN m7 := by rw [hm8]; rfl
    have n9 : gN m9 = gN m8 := by rw [hm9]; rfl
    have n10 : gN m10 = gN m9 := by rw [hm10]; rfl
    have n11 : gN m11 = gN m10 := by rw [hm11]; rfl
    show gN m11 = _
    rw [n11, n10, n9, n8, n7, n6, n5, n4, n3, n2, n1]
/-! what lies elsewhere stays -/
def Ey (m m' : eM) : Prop := (∀ a j, a < gX m → ¬ (a = 4 ∨ 6 ≤ a ∧ a ≤ 8) → gI m' a j = gI m a j ∧ gL m' a j = gL m a j) ∧ ∀ a j, a < gX m → gR m' a j = gR m a j
theorem Pp.ey {v : eV} {p : Nat} {m m' : eM} (h : Pp v p m) (E : Ey m m') (hp : 9 ≤ p) (hx : p + 11 < gX m) : Pp v p m' := by
  have e1 : ∀ a j, p ≤ a → a ≤ p + 11 → gI m' a j = gI m a j := fun a j q1 q2 => (E.1 a j (by omega) (by omega)).1
  have e2 : ∀ a j, p ≤ a → a ≤ p + 11 → gL m' a j = gL m a j := fun a j q1 q2 => (E.1 a j (by omega) (by omega)).2
  have e3 : ∀ j, gR m' p j = gR m p j := fun j => E.2 p j (by omega)
  obtain ⟨h1, ⟨r4, r5, r6, r7, r8, r9, r10, r11, r12, r13, r14⟩, ⟨c0, c1, c2, c3⟩, hf, hpl, hp', hc, hi, hco⟩ := h
  refine ⟨h1, ⟨(e3 _).trans r4, (e3 _).trans r5, (e3 _).trans r6, (e3 _).trans r7, (e3 _).trans r8, (e3 _).trans r9, (e3 _).trans r10, (e3 _).trans r11, (e3 _).trans r12, (e3 _).trans r13, (e3 _).trans r14⟩, ⟨(e1 _ _ (by omega) (by omega)).trans c0, (e1 _ _ (by omega) (by omega)).trans c1, (e1 _ _ (by omega) (by omega)).trans c2, (e1 _ _ (by omega) (by omega)).trans c3⟩, fun j hj => ?_, fun j hj => ?_, fun j hj => ?_, fun c hc' => ?_, (e1 _ _ (by omega) (by omega)).trans hi, (e2 _ _ (by omega) (by omega)).trans hco⟩
  · rw [e2 _ _ (by omega) (by omega), e1 _ _ (by omega) (by omega)]; exact hf j hj
  · rw [e2 _ _ (by omega) (by omega), e1 _ _ (by omega) (by omega)]; exact hpl j hj
  · rw [e2 _ _ (by omega) (by omega), e1 _ _ (by omega) (by omega), e1 _ _ (by omega) (by omega), e1 _ _ (by omega) (by omega)]; exact hp' j hj
  · rw [e1 _ _ (by omega) (by omega), e1 _ _ (by omega) (by omega)]; exact hc c hc'
theorem TkP.ey {v : eV} {t n : Nat} {g : Nat → Nat} {m m' : eM} (h : TkP v t n g m) (E : Ey m m') (ht : 9 ≤ t) (hx : t + 5 < gX m) : TkP v t n g m' := by
  have e1 : ∀ a j, t ≤ a → a ≤ t + 5 → gI m' a j = gI m a j := fun a j q1 q2 => (E.1 a j (by omega) (by omega)).1
  have e2 : ∀ a j, t ≤ a → a ≤ t + 5 → gL m' a j = gL m a j := fun a j q1 q2 => (E.1 a j (by omega) (by omega)).2
  have e3 : ∀ j, gR m' t j = gR m t j := fun j => E.2 t j (by omega)
  obtain ⟨h1, ⟨r0, r1, r2, r3, r4⟩, h2, h3, h4⟩ := h
  refine ⟨h1, ⟨(e3 _).trans r0, (e3 _).trans r1, (e3 _).trans r2, (e3 _).trans r3, (e3 _).trans r4⟩, (e1 _ _ (by omega) (by omega)).trans h2, h3, fun i hi => ?_⟩
  rw [e1 _ _ (by omega) (by omega), e1 _ _ (by omega) (by omega), e2 _ _ (by omega) (by omega), e2 _ _ (by omega) (by omega), e2 _ _ (by omega) (by omega)]
  exact h4 i hi
theorem LkP.ey {l n : Nat} {fc fm ff ft : Nat → Nat} {m m' : eM} (h : LkP l n fc fm ff ft m) (E : Ey m m') (hl : 9 ≤ l) (hx : l + 4 < gX m) : LkP l n fc fm ff ft m' := by
  have e1 : ∀ a j, l ≤ a → a ≤ l + 4 → gI m' a j = gI m a j := fun a j q1 q2 => (E.1 a j (by omega) (by omega)).1
  have e3 : ∀ j, gR m' l j = gR m l j := fun j => E.2 l j (by omega)
  obtain ⟨h1, ⟨r0, r1, r2, r3⟩, h2, h3, h4⟩ := h
  refine ⟨h1, ⟨(e3 _).trans r0, (e3 _).trans r1, (e3 _).trans r2, (e3 _).trans r3⟩, (e1 _ _ (by omega) (by omega)).trans h2, h3, fun i hi => ?_⟩
  rw [e1 _ _ (by omega) (by omega), e1 _ _ (by omega) (by omega), e1 _ _ (by omega) (by omega), e1 _ _ (by omega) (by omega)]
  exact h4 i hi
theorem CsP.ey {v : eV} {s p : Nat} {m m' : eM} (h : CsP v s p m) (E : Ey m m') (hs : 9 ≤ s) (hx : s + 34 < gX m) (hp : pOK p) (hpx : p + 11 < gX m) : CsP v s p m' := by
  obtain ⟨⟨a0, a1, a2, a3, a4, a5⟩, b, c, d, e, f, g⟩ := h
  have e3 : ∀ j, gR m' s j = gR m s j := fun j => E.2 s j (by omega)
  exact ⟨⟨a0, (e3 _).trans a1, (e3 _).trans a2, (e3 _).trans a3, (e3 _).trans a4, (e3 _).trans a5⟩, (E.1 s 5 (by omega) (by omega)).1.trans b, c.ey E (by unfold pOK at hp; omega) hpx, d.ey E (by omega) (by omega), e.ey E (by omega) (by omega), f.ey E (by omega) (by omega), g.ey E (by omega) (by omega)⟩
theorem skT_259 : ∀ q ∈ skT, q.1 < 259 := by decide +kernel
theorem Sk.ey {m m' : eM} (h : Sk m) (E : Ey m m') (hx : 259 ≤ gX m) : Sk m' := fun q hq => (E.2 _ _ (by have := skT_259 q hq; omega)).trans (h q hq)
theorem CI.ey {v : eV} {p t : Nat} {tp tp' : Nat → Nat} {V : Nat → Option eV} {m m' : eM} (h : CI v p t tp V m) (E : Ey m m') (hx : gX m ≤ gX m') (h259 : 259 ≤ gX m) (h1 : gI m' 4 1 = 0) : CI v p 0 tp' V m' := by
  obtain ⟨⟨⟨c1, c2, c3, c4⟩, hp⟩, -, hV⟩ := h
  refine ⟨⟨⟨c1.ey E (by decide) (by omega) c4 hp, ⟨fun j hj => ((E.1 1 j (by omega) (by omega)).2).trans (c2.1 j hj), fun j hj => ((E.1 2 j (by omega) (by omega)).2).trans (c2.2 j hj)⟩, c3.ey E h259, c4⟩, by omega⟩, ⟨h1, fun i hi => by omega⟩, fun k hk => ⟨((E.1 45 k (by omega) (by omega)).1).trans (hV k hk).1, fun w hw => ?_⟩⟩
  obtain ⟨q, q1, q2, q3⟩ := (hV k hk).2 w hw
  exact ⟨q, q1.ey E (by omega) (by omega) q2 q3, q2, by omega⟩
/-! the new view -/
def Agr (v u : eV) : Prop := (nF v = nF u ∧ nPl v = nPl u ∧ nP v = nP u ∧ nCm v = nCm u) ∧ (nS v = 0 ∧ nO v = 0 ∧ nL v = 0 ∧ nWt v = 0 ∧ tru v = 0) ∧ (∀ j, j < nF u → cha v j = cha u j ∧ nam v j = nam u j) ∧ (∀ j, j < nPl u → bea v j = bea u j ∧ nam v (6 + j) = nam u (6 + j)) ∧ (∀ j, j < nP u → hom v j = hom u j ∧ kno v j = kno u j ∧ nam v (12 + j) = nam u (12 + j)) ∧ (∀ c, c < 2 → lawV v c = lawV u c ∧ lat v c = lat u c ∧ isc v c = isc u c) ∧ com v = com u
theorem Agr.pp {v u : eV} {p : Nat} {m : eM} (h : Agr v u) (hV : Vu u) (hP : Pp u p m) : Pp v p m := by
  obtain ⟨⟨a1, a2, a3, a4⟩, -, b1, b2, b3, b4, b5⟩ := h
  obtain ⟨h1, h2, ⟨c0, c1, c2, c3⟩, hf, hpl, hp, hc, hi, hco⟩ := hP
  refine ⟨h1, h2, by rw [a1, a2, a3, a4]; exact ⟨c0, c1, c2, c3⟩, fun j hj => ?_, fun j hj => ?_, fun j hj => ?_, fun c hc' => ?_, ?_, by rw [b5]; exact hco⟩
  · rw [a1] at hj; rw [(b1 j hj).1, (b1 j hj).2]; exact hf j hj
  · rw [a2] at hj; rw [(b2 j hj).1, (b2 j hj).2]; exact hpl j hj
  · rw [a3] at hj
    obtain ⟨x1, x2, x3⟩ := b3 j hj
    rw [x1, x2, x3, (b2 _ (hV.2.1.2.2 j hj).1).1]; exact hp j hj
  · obtain ⟨x1, x2, x3⟩ := b4 c hc'
    rw [x1, x2]; exact hc c hc'
  · rw [(b4 1 (by decide)).2.2]; exact hi
theorem Agr.va {v u : eV} (h : Agr v u) (hV : Vu u) : Va v ∧ ∀ j, j < nF v → nam v j < 27 ^ 8 := by
  obtain ⟨⟨a1, a2, a3, a4⟩, ⟨s1, s2, s3, s4, s5⟩, b1, b2, b3, b4, b5⟩ := h
  obtain ⟨⟨v1, v2, v3, v4⟩, ⟨w1, w2, w3⟩, x1, x2, x3, x4⟩ := hV
  refine ⟨?_, fun j hj => by rw [a1] at hj; rw [(b1 j hj).2]; exact (w1 j hj).2⟩
  unfold Va
  rw [a1, a2, a3, a4, s1, s2, s3, s4, s5, b5]
  refine ⟨⟨v1, v2, v3, v4⟩, ⟨by decide, by decide, by decide, by decide⟩, Nat.two_pow_pos _, fun j hj => ?_, fun j hj => ?_, fun j hj => ?_, fun j hj => ?_, fun j hj => ?_, fun j hj => ?_, fun j hj => ?_, ?_, fun j hj => ?_, fun i j hij hj => ?_, fun j hj => ?_, fun j hj => ?_, fun w hw => ?_⟩
  · rw [(b1 j hj).1]; exact (w1 j hj).1
  · rw [(b2 j hj).1]; exact (w2 j hj).1
  · rw [(b3 j hj).1]; exact (w3 j hj).1
  · rw [(b3 j hj).2.1]; exact (w3 j hj).2.1
  · rw [(b4 j hj).1]; exact (x1 j hj).1
  · rw [(b4 j hj).2.1]; exact (x1 j hj).2.1
  · rw [(b4 j hj).2.2]; exact (x1 j hj).2.2.1
  · rw [(b4 0 (by decide)).2.2]; exact x2.1
  · omega
  · omega
  · omega
  · omega
  · by_cases z : w < 64
    · rw [x3 w z, decide_eq_false (by omega)]; rfl
    · exact t_big (by omega)
def psA (o : xL) : Int32 := match o with
  | .inl e => nI e
  | .inr _ => 0
/-- beyond the cells that are, all is 0 -/
def ZF (m : eM) : Prop := ∀ a j, gX m ≤ a → gI m a j = 0 ∧ gL m a j = 0
theorem ZF.fr {m m' : eM} {S : Nat → Nat → Bool} (h : ZF m) (f : Fr S m m') (hS : ∀ a j, gX m ≤ a → S a j = false) : ZF m' := fun a j q => by
  rw [f.x] at q
  exact ⟨(f.1 _ _ (hS a j q)).trans (h a j q).1, (f.2.1 _ _ (hS a j q)).trans (h a j q).2⟩
theorem LC_parish_s {v : eV} {t : Nat} {tp : Nat → Nat} {V : Nat → Option eV} (hv : VI v t tp V) {p : Nat} {m : eM} (h : CI v p t tp V m) {k : Nat} (hX : gX m = 259 + 12 * k) (hZ : ZF m) {D : Nat} (hD : 70 ≤ D) : ∃ m', LC_parish D 3 m = yI (psA (pR (t, tp))) m' ∧ (gX m' = gX m + 12 ∧ gH m' = gH m + 12 ∧ gS m' = gS m + 70 ∧ gN m' = gN m) ∧ ZF m' ∧ (∀ a j, a = 0 ∨ 208 ≤ a ∧ a < gX m → gI m' a j = gI m a j ∧ gL m' a j = gL m a j) ∧ Sk m' ∧ (∀ e, pR (t, tp) = .inl e → CI v p 0 tp V m') ∧ (∀ r, pR (t, tp) = .inr r → Vu r.2 ∧ ∀ v', Agr v' r.2 → CI v' (gX m) 0 tp V m') := by
  obtain ⟨d, rfl⟩ : ∃ d, D = d + 1 := ⟨D - 1, by omega⟩
  obtain ⟨P, hPe⟩ : ∃ P, P = gX m := ⟨_, rfl⟩
  have hP259 : P = 259 + 12 * k := hPe.trans hX
  have hst : stP P := by rw [hP259]; exact stP_h k
  have g4 : ∀ o, gd 4 8 o = o := fun o => gd_y kd_4
  have hkP : kd P = 4 := kd_of hst.2.1
  have c0 := h.1.1
  obtain ⟨m0, hm0⟩ : ∃ m0, m0 = sN m 16 := ⟨_, rfl⟩
  have x0 : gX m0 = P + 1 := by rw [hm0, hPe]; rfl
  obtain ⟨m1, e1, r1, i1, l1, q1, x1, h1, s1, nn1⟩ := Pa_init_s hst x0 (D := d) (by omega)
  have i1 : ∀ a j, gI m1 a j = gI m a j := fun a j => (i1 a j).trans (by rw [hm0]; rfl)
  have l1 : ∀ a j, gL m1 a j = if a = P ∧ j = 15 then 1 else gL m a j := fun a j => by rw [l1, hm0]; rfl
  have q1 : ∀ a j, a ≠ P → gR m1 a j = gR m a j := fun a j q => (q1 a j q).trans (by rw [hm0]; rfl)
  have h1 : gH m1 = gH m + 12 := by rw [h1, hm0]; rfl
  have s1 : gS m1 = gS m + 70 := by rw [s1, hm0]; show gS m + 16 + 54 = _; omega
  have nn1 : gN m1 = gN m := by rw [nn1, hm0]; rfl
  have sk1 : Sk m1 := fun q hq => (q1 _ _ (by have := skT_259 q hq; omega)).trans (c0.sk q hq)
  have ss1 : Ss m1 := ⟨fun j hj => by rw [l1, if_neg (by omega)]; exact c0.ss.1 j hj, fun j hj => by rw [l1, if_neg (by omega)]; exact c0.ss.2 j hj⟩
  have tp1 : TpM 4 5 (t, tp) m1 := by
    obtain ⟨a1, a2, a3, a4⟩ := tp_of hv h
    exact ⟨(i1 _ _).trans a1, a2, fun i hi => (i1 _ _).trans (a3 i hi), a4⟩
  obtain ⟨m2, f2, e2, k2, h82, t2⟩ := Ta_open_s (D := d) (by omega) sk1 tp1
  have nP : ∀ a j, P ≤ a → sFo a j = false := fun a j q => sFo_n (by omega) (by omega) (by omega)
  have z2 : ∀ a j, P ≤ a → gI m2 a j = 0 := fun a j q => ((f2.1 a j (nP a j q)).trans (i1 a j)).trans (hZ a j (by omega)).1
  have zl2 : ∀ a j, P ≤ a → ¬ (a = P ∧ j = 15) → gL m2 a j = 0 := fun a j q q2 => by
    rw [f2.2.1 a j (nP a j q), l1, if_neg q2]; exact (hZ a j (by omega)).2
  have c2 : PC (t, tp) P u0 0 m2 := by
    obtain ⟨b4, b5, b6, b7, b8, b9, b10, b11, b12, b13, b14⟩ := r1
    refine ⟨⟨f2.sk sk1, ss1.fr f2 (fun _ => rfl) (fun _ => rfl), t2⟩, k2, h82, ⟨⟨hst, ⟨(f2.r _ _).trans b4, (f2.r _ _).trans b5, (f2.r _ _).trans b6, (f2.r _ _).trans b7, (f2.r _ _).trans b8, (f2.r _ _).trans b9, (f2.r _ _).trans b10, (f2.r _ _).trans b11, (f2.r _ _).trans b12, (f2.r _ _).trans b13, (f2.r _ _).trans b14⟩, ⟨z2 _ _ (by omega), z2 _ _ (by omega), z2 _ _ (by omega), z2 _ _ (by omega)⟩, fun j hj => absurd hj (Nat.not_lt_zero j), fun j hj => absurd hj (Nat.not_lt_zero j), fun j hj => absurd hj (Nat.not_lt_zero j), fun c hc => ⟨z2 _ _ (by omega), z2 _ _ (by omega)⟩, z2 _ _ (by omega), ?_⟩, ?_, fun c hc => z2 _ _ (by omega)⟩, Vu_0, Nat.zero_le _⟩
    · rw [f2.2.1 P 15 (nP _ _ (Nat.le_refl _)), l1, if_pos ⟨rfl, rfl⟩]; rfl
    · unfold pOK; omega
  obtain ⟨d', hd'⟩ : ∃ d', d = d' + 1 := ⟨d - 1, by omega⟩
  have hL := Pa_read_5_s (s := (t, tp)) (p := P) d' (by omega) 1000 0 u0 0 m2 rfl c2
  have eR : Pa_read d P 4 6 m2 = Pa_read_5 (d' + 1) P 4 6 (1 : Int32) (nI 0) m2 := by
    rw [hd', Pa_read_e _ _ _ _ _ hkP kd_4 kd_6]; rfl
  have eb : ∀ (x : Int32) (m3 : eM), Sk m3 → Pa_read d P 4 6 m2 = yI x m3 → LC_parish (d + 1) 3 m = (if x = 0 then (yI (gI (sI m3 4 1 0) 4 8) (sI m3 4 1 0)) else (bV (St_begin d 9 P (sI m3 4 1 0)) fun m21 => yI (0 : Int32) m21)) := fun x m3 s3 e3 => by
    have s3' : Sk (sI m3 4 1 0) := s3
    rw [LC_parish_e _ _ _ kd_3, nw_y (by rw [← hPe]; exact hkP), ← hm0, ← hPe, gd_y hkP, e1, bV_y, rf_3_0 sk1, bR_s, g4, e2, bV_y, rf_3_0 (f2.sk sk1), bR_s, rf_3_1 (f2.sk sk1), bR_s, e3, bI_y, rf_3_0 s3, bR_s, g4, Ta_clear_s, bV_y, rf_3_0 s3', bR_s, g4, Ta_fault_e _ _ _ kd_4, bI_y, rf_3_2 s3', bR_s, gd9]
  have eyOf : ∀ m3, Fr (sPr P) m2 m3 → Ey m (sI m3 4 1 0) ∧ ZF (sI m3 4 1 0) ∧ (gX (sI m3 4 1 0) = gX m + 12 ∧ gH (sI m3 4 1 0) = gH m + 12 ∧ gS (sI m3 4 1 0) = gS m + 70 ∧ gN (sI m3 4 1 0) = gN m) ∧ (∀ a j, a = 0 ∨ 208 ≤ a ∧ a < gX m → gI (sI m3 4 1 0) a j = gI m a j ∧ gL (sI m3 4 1 0) a j = gL m a j) := fun m3 f3 => by
    have i3 : ∀ a j, a < P → ¬ (a = 4 ∨ 6 ≤ a ∧ a ≤ 8) → gI (sI m3 4 1 0) a j = gI m a j ∧ gL (sI m3 4 1 0) a j = gL m a j := fun a j q1' q2 => by
      have n1 : sPr P a j = false := sPr_n (by omega)
      have n2 : sFo a j = false := sFo_n (by omega) (by omega) (by omega)
      refine ⟨?_, ?_⟩
      · rw [gI_sI, if_neg (by omega), f3.1 _ _ n1, f2.1 _ _ n2, i1]
      · show gL m3 a j = _
        rw [f3.2.1 _ _ n1, f2.2.1 _ _ n2, l1, if_neg (by omega)]
    have e3 : m3.2.2 = m1.2.2 := f3.2.2.trans f2.2.2
    have rr : ∀ a j, gR m3 a j = gR m1 a j := fun a j => by
      have : gR m3 = gR m1 := congrArg Prod.fst e3
      rw [this]
    have x3 : gX m3 = gX m1 := congrArg (fun x => x.2.1) e3
    have h3 : gH m3 = gH m1 := congrArg (fun x => x.2.2.1) e3
    have s3 : gS m3 = gS m1 := congrArg (fun x => x.2.2.2.1) e3
    have nn3 : gN m3 = gN m1 := congrArg (fun x => x.2.2.2.2) e3
    refine ⟨⟨fun a j q1' q2 => i3 a j (by omega) q2, fun a j q => (rr a j).trans (q1 a j (by omega))⟩, fun a j q => ?_, ⟨?_, ?_, ?_, nn3.trans nn1⟩, fun a j q => i3 a j (by omega) (by omega)⟩
    · have q : P + 12 ≤ a := by
        have : gX (sI m3 4 1 0) = gX m3 := rfl
        rw [this, x3, x1] at q; exact q
      refine ⟨?_, ?_⟩
      · rw [gI_sI, if_neg (by omega), f3.1 _ _ (sPr_n (by omega))]; exact z2 _ _ (by omega)
      · show gL m3 a j = 0
        rw [f3.2.1 _ _ (sPr_n (by omega))]; exact zl2 _ _ (by omega) (by omega)
    · show gX m3 = _
      rw [x3, x1, ← hPe]
    · show gH m3 = _
      rw [h3, h1]
    · show gS m3 = _
      rw [s3, s1]
  cases y : pR (t, tp) with
  | inl e =>
    obtain ⟨m3, f3, a3, b3⟩ := hL.2 e y
    obtain ⟨E, Z, X, C⟩ := eyOf m3 f3
    have s3 := f3.sk c2.sk
    refine ⟨sI m3 4 1 0, ?_, X, Z, C, s3, fun e' q => ?_, fun r q => (by cases q)⟩
    · rw [eb 0 m3 s3 (eR.trans a3), if_pos rfl, gI_sI, if_neg (by omega), b3]
      rfl
    · exact h.ey E (by rw [X.1]; omega) (by omega) (gI_w _ _ _ _)
  | inr r =>
    obtain ⟨m3, f3, a3, c3⟩ := hL.1 r y
    obtain ⟨E, Z, X, C⟩ := eyOf m3 f3
    have s3 := c3.sk
    obtain ⟨mc, hmc⟩ : ∃ mc, mc = sI m3 4 1 0 := ⟨_, rfl⟩
    have sc : Sk mc := by rw [hmc]; exact s3
    rw [← hmc] at E Z X C
    obtain ⟨m', hm'⟩ : ∃ m', m' = sI (sI (sI (sI (sI (sR mc 9 0 (some P)) 22 5 0) 28 5 0) 34 4 0) 39 4 0) 9 5 0 := ⟨_, rfl⟩
    have fB : Fr (fun a _ => a == 22 || (a == 28 || (a == 34 || (a == 39 || a == 9)))) (sR mc 9 0 (some P)) m' := by
      rw [hm']
      exact ((((Fr.rfl'.i rfl).i rfl).i rfl).i rfl).i rfl
    have sR9 : Sk (sR mc 9 0 (some P)) := sc.sr (Or.inl rfl) _
    have nb : ∀ a, Nat → a ≠ 22 → a ≠ 28 → a ≠ 34 → a ≠ 39 → a ≠ 9 → (a == 22 || (a == 28 || (a == 34 || (a == 39 || a == 9)))) = false := fun a _ q1 q2 q3 q4 q5 => by simp [q1, q2, q3, q4, q5]
    have kI : ∀ a j, a ≠ 22 → a ≠ 28 → a ≠ 34 → a ≠ 39 → a ≠ 9 → gI m' a j = gI mc a j := fun a j q1 q2 q3 q4 q5 => fB.1 a j (nb a j q1 q2 q3 q4 q5)
    have kL : ∀ a j, gL m' a j = gL mc a j := fun a j => by rw [hm']; rfl
    have kR : ∀ a j, ¬ (a = 9 ∧ j = 0) → gR m' a j = gR mc a j := fun a j q => (fB.r a j).trans (if_neg q)
    have kR9 : gR m' 9 0 = some P := (fB.r 9 0).trans (by rw [gR_sR, if_pos ⟨rfl, rfl⟩])
    have sk' : Sk m' := fB.sk sR9
    have cM : gX m' = gX mc ∧ gH m' = gH mc ∧ gS m' = gS mc ∧ gN m' = gN mc := by rw [hm']; exact ⟨rfl, rfl, rfl, rfl⟩
    refine ⟨m', ?_, by rw [cM.1, cM.2.1, cM.2.2.1, cM.2.2.2]; exact X, fun a j q => ?_, fun a j q => ?_, sk', fun e q => (by cases q), fun r' q => ?_⟩
    · rw [eb 1 m3 s3 (eR.trans a3), if_neg ten1, ← hmc, hd', St_begin_e _ _ _ _ kd_9 hkP, mQ_u, rf_9_1 sR9, bR_s, gd22, Tk_clear_e _ _ _ kd_22, mI_u, bV_y]
      show bV (bR (gR (sR mc 9 0 (some P)) 9 2) fun r5 => _) _ = _
      rw [rf_9_2 sR9, bR_s, gd28, Tk_clear_e _ _ _ kd_28, mI_u, bV_y]
      show bV (bR (gR (sR mc 9 0 (some P)) 9 3) fun r5 => _) _ = _
      rw [rf_9_3 sR9, bR_s, gd34, Lo_clear_e _ _ _ kd_34, mI_u, bV_y]
      show bV (bR (gR (sR mc 9 0 (some P)) 9 4) fun r5 => _) _ = _
      rw [rf_9_4 sR9, bR_s, gd39, Lo_clear_e _ _ _ kd_39, mI_u, bV_y, mI_u, bV_y, hm']
      rfl
    · rw [cM.1, X.1] at q
      rw [kI _ _ (by omega) (by omega) (by omega) (by omega) (by omega), kL]
      exact Z a j (by rw [X.1]; exact q)
    · rw [kI _ _ (by omega) (by omega) (by omega) (by omega) (by omega), kL]
      exact C a j q
    · cases q
      refine ⟨c3.2.2.2.2.1, fun v' hA => ?_⟩
      have hOK : pOK P := by unfold pOK; omega
      obtain ⟨⟨⟨⟨⟨b0, b1, b2, b3, b4, b5⟩, -, -, T1, T2, L1, L2⟩, S1, -, -⟩, hpx⟩, -, hV⟩ := h
      obtain ⟨o1, o2, o3, o4, o5⟩ := hA.2.1
      have rE : ∀ a j, a < P → ¬ (a = 9 ∧ j = 0) → gR m' a j = gR m a j := fun a j q1 q2 => (kR a j q2).trans (E.2 a j (by omega))
      have PpM : Pp r.2 P m' := by
        have f4 : Fr (fun a j => a == 4 && j == 1) m3 mc := by rw [hmc]; exact Fr.rfl'.i rfl
        have p1 := c3.pp.fr f4 fun a j q1 q2 => by
          have : a ≠ 4 := by omega
          simp [this]
        have p2 : Pp r.2 P (sR mc 9 0 (some P)) := by
          have hne : ∀ j, gR (sR mc 9 0 (some P)) P j = gR mc P j := fun j => if_neg (by omega)
          obtain ⟨w1, ⟨z4, z5, z6, z7, z8, z9, z10, z11, z12, z13, z14⟩, w3⟩ := p1
          exact ⟨w1, ⟨(hne _).trans z4, (hne _).trans z5, (hne _).trans z6, (hne _).trans z7, (hne _).trans z8, (hne _).trans z9, (hne _).trans z10, (hne _).trans z11, (hne _).trans z12, (hne _).trans z13, (hne _).trans z14⟩, w3⟩
        exact p2.fr fB fun a j q1 q2 => nb a j (by omega) (by omega) (by omega) (by omega) (by omega)
      have tk0 : ∀ tt g, TkR tt m → stT tt → 9 ≤ tt → tt + 5 < P → tt ≠ 9 → gI m' tt 5 = 0 → TkP v' tt 0 g m' := fun tt g hr hs h9 hlt hne h5 => by
        obtain ⟨y0, y1, y2, y3, y4⟩ := hr
        exact ⟨hs, ⟨(rE _ _ (by omega) (by omega)).trans y0, (rE _ _ (by omega) (by omega)).trans y1, (rE _ _ (by omega) (by omega)).trans y2, (rE _ _ (by omega) (by omega)).trans y3, (rE _ _ (by omega) (by omega)).trans y4⟩, h5, by decide, fun i hi => absurd hi (Nat.not_lt_zero i)⟩
      have lk0 : ∀ l fc fm ff ft, LkR l m → stK l → 9 < l → l + 4 < P → gI m' l 4 = 0 → LkP l 0 fc fm ff ft m' := fun l fc fm ff ft hr hs h9 hlt h5 => by
        obtain ⟨y0, y1, y2, y3⟩ := hr
        exact ⟨hs, ⟨(rE _ _ (by omega) (by omega)).trans y0, (rE _ _ (by omega) (by omega)).trans y1, (rE _ _ (by omega) (by omega)).trans y2, (rE _ _ (by omega) (by omega)).trans y3⟩, h5, by decide, fun i hi => absurd hi (Nat.not_lt_zero i)⟩
      rw [← hPe]
      refine ⟨⟨⟨⟨⟨b0, kR9, (rE _ _ (by omega) (by omega)).trans b2, (rE _ _ (by omega) (by omega)).trans b3, (rE _ _ (by omega) (by omega)).trans b4, (rE _ _ (by omega) (by omega)).trans b5⟩, ?_, hA.pp c3.2.2.2.2.1 PpM, ?_, ?_, ?_, ?_⟩, ⟨fun j hj => ?_, fun j hj => ?_⟩, sk', hOK⟩, ?_⟩, ⟨?_, fun i hi => by omega⟩, fun kk hk => ⟨?_, fun w hw => ?_⟩⟩
      · rw [o5, hm', gI_w]; rfl
      · rw [o1]
        refine tk0 22 _ T1.2.1 T1.1 (by decide) (by omega) (by decide) ?_
        rw [hm', gI_sI, if_neg (by omega), gI_sI, if_neg (by omega), gI_sI, if_neg (by omega), gI_sI, if_neg (by omega), gI_w]
      · rw [o2]
        refine tk0 28 _ T2.2.1 T2.1 (by decide) (by omega) (by decide) ?_
        rw [hm', gI_sI, if_neg (by omega), gI_sI, if_neg (by omega), gI_sI, if_neg (by omega), gI_w]
      · rw [o3]
        refine lk0 34 _ _ _ _ L1.2.1 L1.1 (by decide) (by omega) ?_
        rw [hm', gI_sI, if_neg (by omega), gI_sI, if_neg (by omega), gI_w]
      · rw [o4]
        refine lk0 39 _ _ _ _ L2.2.1 L2.1 (by decide) (by omega) ?_
        rw [hm', gI_sI, if_neg (by omega), gI_w]
      · rw [kL]; exact ((E.1 1 j (by omega) (by omega)).2).trans (S1.1 j hj)
      · rw [kL]; exact ((E.1 2 j (by omega) (by omega)).2).trans (S1.2 j hj)
      · rw [cM.1, X.1]; omega
      · rw [kI _ _ (by decide) (by decide) (by decide) (by decide) (by decide), hmc, gI_w]; rfl
      · rw [kI _ _ (by decide) (by decide) (by decide) (by decide) (by decide)]
        exact ((E.1 45 kk (by omega) (by omega)).1).trans (hV kk hk).1
      · obtain ⟨qq, w1, w2, w3⟩ := (hV kk hk).2 w hw
        have E' : Ey m (sR mc 9 0 (some P)) → True := fun _ => trivial
        have wc := w1.ey E (by omega) (by omega) w2 w3
        have wr : CsP w (68 + 35 * kk) qq (sR mc 9 0 (some P)) := by
          have hne : ∀ a j, a ≠ 9 → gR (sR mc 9 0 (some P)) a j = gR mc a j := fun a j q => if_neg (fun z => q z.1)
          have hq9 : qq ≠ 9 := by unfold pOK at w2; omega
          obtain ⟨⟨a0, a1, a2, a3, a4, a5⟩, bb', ⟨w1', ⟨z4, z5, z6, z7, z8, z9, z10, z11, z12, z13, z14⟩, w3'⟩, ⟨d1, ⟨y0, y1, y2, y3, y4⟩, d3⟩, ⟨g1, ⟨v0, v1, v2, v3, v4⟩, g3⟩, ⟨n1, ⟨n20, n21, n22, n23⟩, n3⟩, ⟨n4, ⟨n50, n51, n52, n53⟩, n6⟩⟩ := wc
          exact ⟨⟨a0, (hne _ _ (by omega)).trans a1, (hne _ _ (by omega)).trans a2, (hne _ _ (by omega)).trans a3, (hne _ _ (by omega)).trans a4, (hne _ _ (by omega)).trans a5⟩, bb', ⟨w1', ⟨(hne _ _ hq9).trans z4, (hne _ _ hq9).trans z5, (hne _ _ hq9).trans z6, (hne _ _ hq9).trans z7, (hne _ _ hq9).trans z8, (hne _ _ hq9).trans z9, (hne _ _ hq9).trans z10, (hne _ _ hq9).trans z11, (hne _ _ hq9).trans z12, (hne _ _ hq9).trans z13, (hne _ _ hq9).trans z14⟩, w3'⟩, ⟨d1, ⟨(hne _ _ (by omega)).trans y0, (hne _ _ (by omega)).trans y1, (hne _ _ (by omega)).trans y2, (hne _ _ (by omega)).trans y3, (hne _ _ (by omega)).trans y4⟩, d3⟩, ⟨g1, ⟨(hne _ _ (by omega)).trans v0, (hne _ _ (by omega)).trans v1, (hne _ _ (by omega)).trans v2, (hne _ _ (by omega)).trans v3, (hne _ _ (by omega)).trans v4⟩, g3⟩, ⟨n1, ⟨(hne _ _ (by omega)).trans n20, (hne _ _ (by omega)).trans n21, (hne _ _ (by omega)).trans n22, (hne _ _ (by omega)).trans n23⟩, n3⟩, ⟨n4, ⟨(hne _ _ (by omega)).trans n50, (hne _ _ (by omega)).trans n51, (hne _ _ (by omega)).trans n52, (hne _ _ (by omega)).trans n53⟩, n6⟩⟩
        have hnb : ∀ a, (a = 68 + 35 * kk ∨ 68 + 35 * kk + 13 ≤ a ∧ a ≤ 68 + 35 * kk + 34 ∨ qq ≤ a ∧ a ≤ qq + 11) → (a == 22 || (a == 28 || (a == 34 || (a == 39 || a == 9)))) = false := fun a q => nb a 0 (by unfold pOK at w2; omega) (by unfold pOK at w2; omega) (by unfold pOK at w2; omega) (by unfold pOK at w2; omega) (by unfold pOK at w2; omega)
        refine ⟨qq, wr.fr fB (fun _ => hnb _ (by omega)) (fun a j q1 q2 => hnb _ (by omega)) (fun a j q1 q2 => hnb _ (by omega)), w2, ?_⟩
        rw [cM.1, X.1]; omega
