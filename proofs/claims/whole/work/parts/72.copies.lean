/-! ===== copies of looks and states ===== -/
theorem Lo_copy_7_s {l l2 n : Nat} (hd : l + 4 < l2 ∨ l2 + 4 < l) {fc fm ff ft : Nat → Nat} (d : Nat) : ∀ j i m, LkP l2 n fc fm ff ft m → LkP l i fc fm ff ft m → i + j = n → ∃ m', Fr (sLk l) m m' ∧ Lo_copy_7 (d + 2) l l2 (nI i) m = yV m' ∧ LkP l n fc fm ff ft m'
  | 0, i, m, h2, h, e => by
    have hn := h2.2.2.2.1
    refine ⟨m, Fr.rfl', ?_, by rw [show n = i by omega]; exact h⟩
    rw [Lo_copy_7_e _ _ _ _ _ h.kd h2.kd, h2.2.2.1, if_pos (by rw [n_le (by omega) (by omega)]; omega)]
  | j + 1, i, m, h2, h, e => by
    have hn := h2.2.2.2.1
    have f1 := wrK_f l i (nI (fc i)) (nI (fm i)) (nI (ff i)) (nI (ft i)) m
    obtain ⟨g4, gi⟩ := wrK_g (l := l) (n := i) (c := nI (fc i)) (mn := nI (fm i)) (f := nI (ff i)) (t := nI (ft i)) (m := m)
    have h1 : LkP l (i + 1) fc fm ff ft (wrK l i (nI (fc i)) (nI (fm i)) (nI (ff i)) (nI (ft i)) m) := ⟨h.1, h.2.1, g4, by omega, fun x hx => by
      obtain ⟨g1, g2, g3, g5⟩ := gi x
      rw [g1, g2, g3, g5]
      by_cases y : x = i
      · rw [if_pos y, if_pos y, if_pos y, if_pos y, y]; exact ⟨rfl, rfl, rfl, rfl⟩
      · rw [if_neg y, if_neg y, if_neg y, if_neg y]; exact h.2.2.2.2 x (by omega)⟩
    obtain ⟨m', f2, e2, h3⟩ := Lo_copy_7_s hd d j (i + 1) _ (h2.fr f1 fun a _ q1 q2 => sLk_n (by omega)) h1 (by omega)
    refine ⟨m', f1.tr f2, ?_, h3⟩
    rw [Lo_copy_7_e _ _ _ _ _ h.kd h2.kd, h2.2.2.1, if_neg (by rw [n_le (by omega) (by omega)]; omega), Lo_cock_s h2 (by omega) (by omega), bI_y, Lo_minute_s h2 (by omega) (by omega), bI_y, Lo_from_s h2 (by omega) (by omega), bI_y, Lo_to_s h2 (by omega) (by omega), bI_y, Lo_add_s h.z (by omega), bI_y, nI_1]
    exact e2
theorem Lo_copy_s {l l2 n : Nat} (hd : l + 4 < l2 ∨ l2 + 4 < l) {fc fm ff ft : Nat → Nat} {D : Nat} (hD : 2 ≤ D) {m : eM} (h1 : stK l) (hr : LkR l m) (h2 : LkP l2 n fc fm ff ft m) : ∃ m', Fr (sLk l) m m' ∧ Lo_copy D l l2 m = yV m' ∧ LkP l n fc fm ff ft m' := by
  obtain ⟨d, rfl⟩ : ∃ d, D = d + 2 := ⟨D - 2, by omega⟩
  have f1 : Fr (sLk l) m (sI m l 4 0) := Fr.rfl'.i (decide_eq_true (by omega))
  obtain ⟨m', f2, e2, h3⟩ := Lo_copy_7_s hd d n 0 _ (h2.fr f1 fun a _ q1 q2 => sLk_n (by omega)) ⟨h1, hr, gI_w _ _ _ _, Nat.zero_le _, fun x hx => absurd hx (Nat.not_lt_zero _)⟩ (Nat.zero_add _)
  refine ⟨m', f1.tr f2, ?_, h3⟩
  rw [Lo_copy_e _ _ _ _ (kd_of h1.2.1) h2.kd, mI_u]
  exact e2
/-! a reference of a state is set -/
theorem gR_w (m : eM) (a j : Nat) (x : Option Nat) : gR (sR m a j x) a j = x := if_pos ⟨rfl, rfl⟩
theorem gR_n {m : eM} {a j b k : Nat} {x : Option Nat} (h : b ≠ a ∨ k ≠ j) : gR (sR m a j x) b k = gR m b k := if_neg (fun e => by omega)
theorem TkR.sr {t s : Nat} {m : eM} {x : Option Nat} (h : TkR t m) (hs : t ≠ s) : TkR t (sR m s 0 x) := by
  obtain ⟨r0, r1, r2, r3, r4⟩ := h
  exact ⟨(gR_n (Or.inl hs)).trans r0, (gR_n (Or.inl hs)).trans r1, (gR_n (Or.inl hs)).trans r2, (gR_n (Or.inl hs)).trans r3, (gR_n (Or.inl hs)).trans r4⟩
theorem LkR.sr {t s : Nat} {m : eM} {x : Option Nat} (h : LkR t m) (hs : t ≠ s) : LkR t (sR m s 0 x) := by
  obtain ⟨r0, r1, r2, r3⟩ := h
  exact ⟨(gR_n (Or.inl hs)).trans r0, (gR_n (Or.inl hs)).trans r1, (gR_n (Or.inl hs)).trans r2, (gR_n (Or.inl hs)).trans r3⟩
theorem TkP.sr {v : eV} {t n : Nat} {g : Nat → Nat} {s : Nat} {m : eM} {x : Option Nat} (h : TkP v t n g m) (hs : t ≠ s) : TkP v t n g (sR m s 0 x) := ⟨h.1, h.2.1.sr hs, h.2.2⟩
theorem LkP.sr {l n : Nat} {fc fm ff ft : Nat → Nat} {s : Nat} {m : eM} {x : Option Nat} (h : LkP l n fc fm ff ft m) (hs : l ≠ s) : LkP l n fc fm ff ft (sR m s 0 x) := ⟨h.1, h.2.1.sr hs, h.2.2⟩
theorem Pp.sr {v : eV} {p s : Nat} {m : eM} {x : Option Nat} (h : Pp v p m) (hs : p ≠ s) : Pp v p (sR m s 0 x) := by
  obtain ⟨h1, ⟨r0, r1, r2, r3, r4, r5, r6, r7, r8, r9, r10⟩, h3⟩ := h
  exact ⟨h1, ⟨(gR_n (Or.inl hs)).trans r0, (gR_n (Or.inl hs)).trans r1, (gR_n (Or.inl hs)).trans r2, (gR_n (Or.inl hs)).trans r3, (gR_n (Or.inl hs)).trans r4, (gR_n (Or.inl hs)).trans r5, (gR_n (Or.inl hs)).trans r6, (gR_n (Or.inl hs)).trans r7, (gR_n (Or.inl hs)).trans r8, (gR_n (Or.inl hs)).trans r9, (gR_n (Or.inl hs)).trans r10⟩, h3⟩
theorem CsP.sr {v : eV} {t p s : Nat} {m : eM} {x : Option Nat} (h : CsP v t p m) (h1 : s < t ∨ t + 34 < s) (h2 : p ≠ s) : CsP v t p (sR m s 0 x) := by
  obtain ⟨⟨k, r0, r1, r2, r3, r4⟩, c1, c2, c3, c4, c5, c6⟩ := h
  have ht : t ≠ s := by omega
  exact ⟨⟨k, (gR_n (Or.inl ht)).trans r0, (gR_n (Or.inl ht)).trans r1, (gR_n (Or.inl ht)).trans r2, (gR_n (Or.inl ht)).trans r3, (gR_n (Or.inl ht)).trans r4⟩, c1, c2.sr h2, c3.sr (by omega), c4.sr (by omega), c5.sr (by omega), c6.sr (by omega)⟩
/-- the states' cells -/
def stN (s : Nat) : Prop := s = 9 ∨ s = 68 ∨ s = 103 ∨ s = 138 ∨ s = 173
theorem Sk.sr {m : eM} (hs : Sk m) {s : Nat} (h : stN s) (x : Option Nat) : Sk (sR m s 0 x) := fun q hq => by
  rw [gR_n]
  · exact hs q hq
  · have hh : ∀ q ∈ skT, ¬ ((q.1 = 9 ∨ q.1 = 68 ∨ q.1 = 103 ∨ q.1 = 138 ∨ q.1 = 173) ∧ q.2.1 = 0) := by decide +kernel
    have := hh q hq
    rcases h with h | h | h | h | h <;> omega
def StS (s : Nat) (m : eM) : Prop := (kk s = (6, 6) ∧ gR m s 1 = some (s + 13) ∧ gR m s 2 = some (s + 19) ∧ gR m s 3 = some (s + 25) ∧ gR m s 4 = some (s + 30)) ∧ (stT (s + 13) ∧ TkR (s + 13) m) ∧ (stT (s + 19) ∧ TkR (s + 19) m) ∧ (stK (s + 25) ∧ LkR (s + 25) m) ∧ stK (s + 30) ∧ LkR (s + 30) m
theorem kkS_9 : kk 9 = (6, 6) := by decide +kernel
theorem sST_22 : stT 22 := by unfold stT; decide +kernel
theorem sST_28 : stT 28 := by unfold stT; decide +kernel
theorem sSK_34 : stK 34 := by unfold stK; decide +kernel
theorem sSK_39 : stK 39 := by unfold stK; decide +kernel
theorem StS_9 {m : eM} (hs : Sk m) : StS 9 m := ⟨⟨kkS_9, rf_9_1 hs, rf_9_2 hs, rf_9_3 hs, rf_9_4 hs⟩, ⟨sST_22, rf_22_0 hs, rf_22_1 hs, rf_22_2 hs, rf_22_3 hs, rf_22_4 hs⟩, ⟨sST_28, rf_28_0 hs, rf_28_1 hs, rf_28_2 hs, rf_28_3 hs, rf_28_4 hs⟩, ⟨sSK_34, rf_34_0 hs, rf_34_1 hs, rf_34_2 hs, rf_34_3 hs⟩, sSK_39, rf_39_0 hs, rf_39_1 hs, rf_39_2 hs, rf_39_3 hs⟩
theorem kkS_68 : kk 68 = (6, 6) := by decide +kernel
theorem sST_81 : stT 81 := by unfold stT; decide +kernel
theorem sST_87 : stT 87 := by unfold stT; decide +kernel
theorem sSK_93 : stK 93 := by unfold stK; decide +kernel
theorem sSK_98 : stK 98 := by unfold stK; decide +kernel
theorem StS_68 {m : eM} (hs : Sk m) : StS 68 m := ⟨⟨kkS_68, rf_68_1 hs, rf_68_2 hs, rf_68_3 hs, rf_68_4 hs⟩, ⟨sST_81, rf_81_0 hs, rf_81_1 hs, rf_81_2 hs, rf_81_3 hs, rf_81_4 hs⟩, ⟨sST_87, rf_87_0 hs, rf_87_1 hs, rf_87_2 hs, rf_87_3 hs, rf_87_4 hs⟩, ⟨sSK_93, rf_93_0 hs, rf_93_1 hs, rf_93_2 hs, rf_93_3 hs⟩, sSK_98, rf_98_0 hs, rf_98_1 hs, rf_98_2 hs, rf_98_3 hs⟩
theorem kkS_103 : kk 103 = (6, 6) := by decide +kernel
theorem sST_116 : stT 116 := by unfold stT; decide +kernel
theorem sST_122 : stT 122 := by unfold stT; decide +kernel
theorem sSK_128 : stK 128 := by unfold stK; decide +kernel
theorem sSK_133 : stK 133 := by unfold stK; decide +kernel
theorem StS_103 {m : eM} (hs : Sk m) : StS 103 m := ⟨⟨kkS_103, rf_103_1 hs, rf_103_2 hs, rf_103_3 hs, rf_103_4 hs⟩, ⟨sST_116, rf_116_0 hs, rf_116_1 hs, rf_116_2 hs, rf_116_3 hs, rf_116_4 hs⟩, ⟨sST_122, rf_122_0 hs, rf_122_1 hs, rf_122_2 hs, rf_122_3 hs, rf_122_4 hs⟩, ⟨sSK_128, rf_128_0 hs, rf_128_1 hs, rf_128_2 hs, rf_128_3 hs⟩, sSK_133, rf_133_0 hs, rf_133_1 hs, rf_133_2 hs, rf_133_3 hs⟩
theorem kkS_138 : kk 138 = (6, 6) := by decide +kernel
theorem sST_151 : stT 151 := by unfold stT; decide +kernel
theorem sST_157 : stT 157 := by unfold stT; decide +kernel
theorem sSK_163 : stK 163 := by unfold stK; decide +kernel
theorem sSK_168 : stK 168 := by unfold stK; decide +kernel
theorem StS_138 {m : eM} (hs : Sk m) : StS 138 m := ⟨⟨kkS_138, rf_138_1 hs, rf_138_2 hs, rf_138_3 hs, rf_138_4 hs⟩, ⟨sST_151, rf_151_0 hs, rf_151_1 hs, rf_151_2 hs, rf_151_3 hs, rf_151_4 hs⟩, ⟨sST_157, rf_157_0 hs, rf_157_1 hs, rf_157_2 hs, rf_157_3 hs, rf_157_4 hs⟩, ⟨sSK_163, rf_163_0 hs, rf_163_1 hs, rf_163_2 hs, rf_163_3 hs⟩, sSK_168, rf_168_0 hs, rf_168_1 hs, rf_168_2 hs, rf_168_3 hs⟩
theorem kkS_173 : kk 173 = (6, 6) := by decide +kernel
theorem sST_186 : stT 186 := by unfold stT; decide +kernel
theorem sST_192 : stT 192 := by unfold stT; decide +kernel
theorem sSK_198 : stK 198 := by unfold stK; decide +kernel
theorem sSK_203 : stK 203 := by unfold stK; decide +kernel
theorem StS_173 {m : eM} (hs : Sk m) : StS 173 m := ⟨⟨kkS_173, rf_173_1 hs, rf_173_2 hs, rf_173_3 hs, rf_173_4 hs⟩, ⟨sST_186, rf_186_0 hs, rf_186_1 hs, rf_186_2 hs, rf_186_3 hs, rf_186_4 hs⟩, ⟨sST_192, rf_192_0 hs, rf_192_1 hs, rf_192_2 hs, rf_192_3 hs, rf_192_4 hs⟩, ⟨sSK_198, rf_198_0 hs, rf_198_1 hs, rf_198_2 hs, rf_198_3 hs⟩, sSK_203, rf_203_0 hs, rf_203_1 hs, rf_203_2 hs, rf_203_3 hs⟩
theorem StS_of {s : Nat} (h : stN s) {m : eM} (hs : Sk m) : StS s m := by
  rcases h with h | h | h | h | h
  · rw [h]; exact StS_9 hs
  · rw [h]; exact StS_68 hs
  · rw [h]; exact StS_103 hs
  · rw [h]; exact StS_138 hs
  · rw [h]; exact StS_173 hs
/-- what a copy into a state writes -/
def sSt (s a _ : Nat) : Bool := decide (a = s ∨ s + 13 ≤ a ∧ a ≤ s + 34)
theorem sSt_n {s a j : Nat} (h : a ≠ s ∧ (a < s + 13 ∨ s + 34 < a)) : sSt s a j = false := decide_eq_false (by omega)
theorem St_copy_s {v : eV} {s t p : Nat} (hs1 : stN s) (ht1 : stN t) (hst : s ≠ t) {D : Nat} (hD : 4 ≤ D) {m : eM} (hs : Sk m) (h : CsP v t p m) (hp : pOK p) : ∃ m', Fr (sSt s) (sR m s 0 (some p)) m' ∧ St_copy D s t m = yV m' ∧ CsP v s p m' := by
  obtain ⟨d, rfl⟩ : ∃ d, D = d + 4 := ⟨D - 4, by omega⟩
  have hdis : s + 34 < t ∨ t + 34 < s := by
    unfold stN at hs1 ht1
    omega
  have hps : p ≠ s ∧ (p + 11 < s ∨ s < p) ∧ (p + 11 < s + 13 ∨ s + 34 < p) := by
    unfold stN at hs1
    unfold pOK at hp
    omega
  have hS := StS_of hs1 (hs.sr hs1 (some p))
  have hm : CsP v t p (sR m s 0 (some p)) := h.sr (by omega) hps.1
  obtain ⟨⟨k, r1, r2, r3, r4⟩, ⟨a1, a2⟩, ⟨b1, b2⟩, ⟨c1, c2⟩, d1, d2⟩ := hS
  have hk : kd s = 6 := kd_of k
  have hkt : kd t = 6 := kd_of h.1.1
  obtain ⟨⟨-, q0, q1, q2, q3, q4⟩, t1, t2, t3, t4, t5, t6⟩ := hm
  obtain ⟨m1, f1, e1, h1⟩ := Tk_copy_s (show 3 ≤ d + 3 by omega) (show s + 13 + 5 < t + 13 ∨ t + 13 + 5 < s + 13 by omega) a1 a2 t3
  have f1' : Fr (sSt s) (sR m s 0 (some p)) m1 := f1.up fun a j q => sTt_n (by have := of_decide_eq_false q; omega)
  obtain ⟨m2, f2, e2, h2⟩ := Tk_copy_s (show 3 ≤ d + 3 by omega) (show s + 19 + 5 < t + 19 ∨ t + 19 + 5 < s + 19 by omega) (m := m1) b1 ⟨(f1.r _ _).trans b2.1, (f1.r _ _).trans b2.2.1, (f1.r _ _).trans b2.2.2.1, (f1.r _ _).trans b2.2.2.2.1, (f1.r _ _).trans b2.2.2.2.2⟩ (t4.fr f1 fun a _ x1 x2 => sTt_n (by omega))
  have f2' : Fr (sSt s) m1 m2 := f2.up fun a j q => sTt_n (by have := of_decide_eq_false q; omega)
  have f12 := f1'.tr f2'
  obtain ⟨m3, f3, e3, h3⟩ := Lo_copy_s (show s + 25 + 4 < t + 25 ∨ t + 25 + 4 < s + 25 by omega) (show 2 ≤ d + 3 by omega) (m := m2) c1 ⟨(f12.r _ _).trans c2.1, (f12.r _ _).trans c2.2.1, (f12.r _ _).trans c2.2.2.1, (f12.r _ _).trans c2.2.2.2⟩ (t5.fr f12 fun a _ x1 x2 => sSt_n (by omega))
  have f3' : Fr (sSt s) m2 m3 := f3.up fun a j q => sLk_n (by have := of_decide_eq_false q; omega)
  have f13 := f12.tr f3'
  obtain ⟨m4, f4, e4, h4⟩ := Lo_copy_s (show s + 30 + 4 < t + 30 ∨ t + 30 + 4 < s + 30 by omega) (show 2 ≤ d + 3 by omega) (m := m3) d1 ⟨(f13.r _ _).trans d2.1, (f13.r _ _).trans d2.2.1, (f13.r _ _).trans d2.2.2.1, (f13.r _ _).trans d2.2.2.2⟩ (t6.fr f13 fun a _ x1 x2 => sSt_n (by omega))
  have f4' : Fr (sSt s) m3 m4 := f4.up fun a j q => sLk_n (by have := of_decide_eq_false q; omega)
  have f14 := f13.tr f4'
  have f5 : Fr (fun a _ => a == s) m4 (sI m4 s 5 (nI (tru v))) := Fr.rfl'.i (by simp)
  have n5 : ∀ a, a ≠ s → (a == s) = false := fun a q => by simp [q]
  refine ⟨_, f14.tr (Fr.rfl'.i (decide_eq_true (Or.inl rfl))), ?_, ⟨⟨k, (f14.r _ _).trans (gR_w _ _ _ _), (f14.r _ _).trans r1, (f14.r _ _).trans r2, (f14.r _ _).trans r3, (f14.r _ _).trans r4⟩, gI_w _ _ _ _, ?_, ?_, ?_, ?_, ?_⟩⟩
  · rw [St_copy_e _ _ _ _ hk hkt, h.1.2.1, bR_s, mQ_u, r1, bR_s, q1, bR_s, gd_y (kd_of a1.2.1), e1, bV_y, f1.r, f1.r, r2, bR_s, q2, bR_s, gd_y (kd_of b1.2.1), e2, bV_y, f12.r, f12.r, r3, bR_s, q3, bR_s, gd_y (kd_of c1.2.1), e3, bV_y, f13.r, f13.r, r4, bR_s, q4, bR_s, gd_y (kd_of d1.2.1), e4, bV_y, f14.1 t 5 (sSt_n (by omega)), t1, mI_u]
  · exact t2.fr (f14.tr (Fr.rfl'.i (decide_eq_true (Or.inl rfl)))) fun a _ x1 x2 => sSt_n (by omega)
  · exact (((h1.fr f2 fun a _ x1 x2 => sTt_n (by omega)).fr f3 fun a _ x1 x2 => sLk_n (by omega)).fr f4 fun a _ x1 x2 => sLk_n (by omega)).fr f5 fun a _ x1 x2 => n5 a (by omega)
  · exact ((h2.fr f3 fun a _ x1 x2 => sLk_n (by omega)).fr f4 fun a _ x1 x2 => sLk_n (by omega)).fr f5 fun a _ x1 x2 => n5 a (by omega)
  · exact (h3.fr f4 fun a _ x1 x2 => sLk_n (by omega)).fr f5 fun a _ x1 x2 => n5 a (by omega)
  · exact h4.fr f5 fun a _ x1 x2 => n5 a (by omega)
