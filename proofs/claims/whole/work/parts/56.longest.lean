/-! ===== LONGEST ===== -/
def prA (v : eV) (c a k : Nat) : Nat := if k = 0 then 6 else pP v c (a + (k - 1))
def rnV (v : eV) (c a : Nat) : Nat → Nat
  | 0 => 0
  | k + 1 => if pP v c (a + k) = 6 then 0 else if pP v c (a + k) = prA v c a k then rnV v c a k + 1 else 1
theorem rnV_s (v : eV) (c a k : Nat) : rnV v c a (k + 1) = if pP v c (a + k) = 6 then 0 else if pP v c (a + k) = prA v c a k then rnV v c a k + 1 else 1 := rfl
def bwV (v : eV) (c a : Nat) : Nat → Nat × Nat
  | 0 => (0, 6)
  | k + 1 => if (bwV v c a k).1 < rnV v c a (k + 1) then (rnV v c a (k + 1), pP v c (a + k)) else bwV v c a k
theorem bwV_s (v : eV) (c a k : Nat) : bwV v c a (k + 1) = if (bwV v c a k).1 < rnV v c a (k + 1) then (rnV v c a (k + 1), pP v c (a + k)) else bwV v c a k := rfl
theorem rnV_le (v : eV) (c a : Nat) : ∀ k, rnV v c a k ≤ k
  | 0 => Nat.le_refl _
  | k + 1 => by
    have := rnV_le v c a k
    rw [rnV_s]
    split
    · omega
    · split <;> omega
theorem bwV_le (v : eV) (c a : Nat) : ∀ k, (bwV v c a k).1 ≤ k
  | 0 => Nat.le_refl _
  | k + 1 => by
    have h1 := bwV_le v c a k
    have h2 := rnV_le v c a (k + 1)
    rw [bwV_s]
    split
    · exact h2
    · omega
theorem prA_s (v : eV) (c a k : Nat) : prA v c a (k + 1) = pP v c (a + k) := by
  unfold prA
  rw [if_neg (by omega)]
  rfl
/-- a stretch of one and the same -/
theorem bw_same {v : eV} {c a k0 q : Nat} (hq : q ≠ 6) (h0 : prA v c a k0 ≠ q) : ∀ n, (∀ i, i < n → pP v c (a + (k0 + i)) = q) → (1 ≤ n → rnV v c a (k0 + n) = n) ∧ bwV v c a (k0 + n) = if (bwV v c a k0).1 < n then (n, q) else bwV v c a k0
  | 0, _ => ⟨fun z => by omega, by rw [if_neg (by omega)]; rfl⟩
  | n + 1, h => by
    obtain ⟨h1, h2⟩ := bw_same hq h0 n fun i hi => h i (by omega)
    have hn := h n (by omega)
    have hr : rnV v c a (k0 + n + 1) = n + 1 := by
      rw [rnV_s, hn, if_neg hq]
      by_cases z : n = 0
      · subst z
        rw [if_neg (fun y => h0 y.symm)]
      · have : prA v c a (k0 + n) = q := by
          obtain ⟨n', rfl⟩ : ∃ x, n = x + 1 := ⟨n - 1, by omega⟩
          exact (prA_s v c a (k0 + n')).trans (h n' (by omega))
        rw [if_pos this.symm, h1 (by omega)]
    refine ⟨fun _ => hr, ?_⟩
    have e : bwV v c a (k0 + (n + 1)) = if (bwV v c a (k0 + n)).1 < rnV v c a (k0 + n + 1) then (rnV v c a (k0 + n + 1), pP v c (a + (k0 + n))) else bwV v c a (k0 + n) := rfl
    rw [e, hr, hn, h2]
    by_cases z : (bwV v c a k0).1 < n
    · rw [if_pos z, if_pos (by show n < n + 1; omega), if_pos (by omega)]
    · rw [if_neg z]
theorem bw_none {v : eV} {c a k0 : Nat} : ∀ n, (∀ i, i < n → pP v c (a + (k0 + i)) = 6) → bwV v c a (k0 + n) = bwV v c a k0
  | 0, _ => rfl
  | n + 1, h => by
    have e : bwV v c a (k0 + (n + 1)) = if (bwV v c a (k0 + n)).1 < rnV v c a (k0 + n + 1) then (rnV v c a (k0 + n + 1), pP v c (a + (k0 + n))) else bwV v c a (k0 + n) := rfl
    rw [e, rnV_s, h n (by omega), if_pos rfl, if_neg (by omega), bw_none n fun i hi => h i (by omega)]
def lonV (r : Nat × Nat) (w : Int32) : Int32 := if r.1 = 0 then -1 else if w = 0 then nI r.1 else pI r.2
def sp_longest (v : eV) (c a b w : Int32) : Int32 := if spS v c a b = true then (if inN w 2 = true then lonV (bwV v c.toNatClampNeg a.toNatClampNeg (b.toNatClampNeg + 1 - a.toNatClampNeg)) w else -1) else -1
/-! the reference -/
theorem Mo_longest_47_s {v : eV} (hv : Va v) {m : eM} (h : Mp v m) (hr : Rw v (fun i => i) (nS v) m) (d : Nat) {c a b : Nat} (hc : c < 2) (hb : b < 1440) (w : Int32) : ∀ j k w10, a + k + j = b + 1 → Mo_longest_47 (d + 2) 208 (nI c) (nI a) (nI b) w (nI (bwV v c a k).1) (pI (bwV v c a k).2) (nI (rnV v c a k)) (pI (prA v c a k)) (nI (a + k)) w10 m = yI (lonV (bwV v c a (b + 1 - a)) w) m
  | 0, k, w10, e => by
    have hk := bwV_le v c a k
    rw [Mo_longest_47_e _ _ _ _ _ _ _ _ _ _ _ _ _ kd_208, if_pos (by rw [n_lt (by omega) (by omega)]; omega), show b + 1 - a = k by omega]
    unfold lonV
    by_cases z : (bwV v c a k).1 = 0
    · rw [if_neg (by rw [n_eq0 (by omega)]; exact fun q => q z), if_pos z]
    · rw [if_pos (by rw [n_eq0 (by omega)]; exact z), if_neg z]
      by_cases y : w = 0
      · rw [if_neg (fun q => q y), if_pos y]
      · rw [if_pos y, if_neg y]
  | j + 1, k, w10, e => by
    have hk := bwV_le v c a k
    have hk2 := rnV_le v c a k
    have hk3 := rnV_le v c a (k + 1)
    have h1 := pP_lt hv c (a + k)
    have h2 : prA v c a k < 7 := by
      unfold prA
      split
      · decide
      · exact pP_lt hv _ _
    have ih := Mo_longest_47_s (a := a) hv h hr d hc hb w j (k + 1) (.int (pI (pP v c (a + k)))) (by omega)
    have e90 : Mo_longest_90 (d + 2) 208 (nI c) (nI a) (nI b) w (nI (bwV v c a k).1) (pI (bwV v c a k).2) (nI (rnV v c a k)) (pI (prA v c a k)) (nI (a + k)) (pI (pP v c (a + k))) (nI (rnV v c a (k + 1))) m = yI (lonV (bwV v c a (b + 1 - a)) w) m := by
      rw [Mo_longest_90_e _ _ _ _ _ _ _ _ _ _ _ _ _ _ kd_208, nI_1, ← ih, prA_s, bwV_s, show a + k + 1 = a + (k + 1) by omega]
      by_cases z : (bwV v c a k).1 < rnV v c a (k + 1)
      · rw [if_pos (by rw [n_lt (by omega) (by omega)]; exact z), if_pos z]
      · rw [if_neg (by rw [n_lt (by omega) (by omega)]; exact z), if_neg z]
    rw [Mo_longest_47_e _ _ _ _ _ _ _ _ _ _ _ _ _ kd_208, if_neg (by rw [n_lt (by omega) (by omega)]; omega), Mo_pt_s hv h hr (by omega) hc (by omega), bI_y, ← e90, rnV_s]
    by_cases z : pP v c (a + k) = 6
    · rw [if_neg (show ¬ 0 ≤ pI (pP v c (a + k)) by rw [z]; decide), if_pos z]; rfl
    · have z0 : 0 ≤ pI (pP v c (a + k)) := by unfold pI; rw [if_neg z]; exact nI_pos' (by omega)
      rw [if_pos z0, if_neg z]
      by_cases y : pP v c (a + k) = prA v c a k
      · rw [if_neg (fun q => q (by rw [y])), if_pos y, nI_1]
      · rw [if_pos (fun q => y ((pI_i h1 h2).mp q)), if_neg y]; rfl
theorem Mo_longest_s {v : eV} (hv : Va v) {D : Nat} (hD : 5 ≤ D) {m : eM} (h : Mp v m) (c a b w : Int32) : ∃ m', Fr sQ m m' ∧ Mo_longest D 208 c a b w m = yI (sp_longest v c a b w) m' := by
  obtain ⟨d, rfl⟩ : ∃ d, D = d + 5 := ⟨D - 5, by omega⟩
  have h0 := th0 h
  rw [Mo_longest_e _ _ _ _ _ _ _ kd_208, mI_u, Mo_isSpan_s hv h0 (by omega), br0, Mo_within_1, br1]
  unfold sp_longest
  by_cases z1 : spS v c a b = true
  · rw [if_pos z1, if_pos z1]
    by_cases z2 : inN w 2 = true
    · rw [if_pos z2, if_pos z2]
      obtain ⟨m1, f1, e1, r1⟩ := Mo_rows_0 hv (show 4 ≤ d + 4 by omega) h0
      obtain ⟨k, i, j, hk, hi, hj, hij, rfl, rfl, rfl⟩ := spS_of z1
      refine ⟨m1, f0.tr f1, ?_⟩
      rw [e1, bV_y, n_cl (by omega), n_cl (by omega), n_cl (by omega)]
      exact Mo_longest_47_s hv (h0.q f1) r1 (d + 3) (a := i) hk hj w (j + 1 - i) 0 eU (by omega)
    · rw [if_neg z2, if_neg z2]
      exact ⟨_, f0, rfl⟩
  · rw [if_neg z1, if_neg z1]
    exact ⟨_, f0, rfl⟩
/-! the class -/
/-- how many minutes of the span come before a part -/
def kbN (S : Nat → Nat) (N a T l : Nat) : Nat := if l = 0 then 0 else min T (max a (eS S N l)) - a
def lpX (v : eV) (c : Nat) (S Q : Nat → Nat) (N a T l : Nat) (x3 : Int32) : Prop := (bwV v c a (kbN S N a T l) = (0, 6) ∧ x3 = -1) ∨ ∃ j, j < l ∧ x3 = nI j ∧ bwV v c a (kbN S N a T l) = (ovl S N a T j, Q j) ∧ 0 < ovl S N a T j
theorem lp_step {v : eV} {c : Nat} {S Q : Nat → Nat} {N : Nat} (h : CQ v c (nS v) S Q N) {a T l : Nat} (hT : T ≤ 1440) (ha : a ≤ T) (hl : l < N) : bwV v c a (kbN S N a T (l + 1)) = if Q l = 6 then bwV v c a (kbN S N a T l) else if (bwV v c a (kbN S N a T l)).1 < ovl S N a T l then (ovl S N a T l, Q l) else bwV v c a (kbN S N a T l) := by
  have eSl : eS S N l = S l := if_pos hl
  have hmono : S l ≤ eS S N (l + 1) ∨ 1440 ≤ eS S N (l + 1) := by
    unfold eS
    by_cases y : l + 1 < N
    · rw [if_pos y]; exact Or.inl (CQ_mono h y)
    · rw [if_neg y]; exact Or.inr (Nat.le_refl _)
  have ek : kbN S N a T l = min T (max a (S l)) - a := by
    unfold kbN
    by_cases z : l = 0
    · rw [if_pos z]; subst z; rw [h.1.2.2.1]; omega
    · rw [if_neg z, eSl]
  have ek1 : kbN S N a T (l + 1) = kbN S N a T l + ovl S N a T l := by
    rw [ek]
    unfold kbN ovl
    rw [if_neg (by omega), eSl]
    omega
  have hin : ∀ i, i < ovl S N a T l → pP v c (a + (kbN S N a T l + i)) = Q l := fun i hi => by
    unfold ovl at hi
    rw [eSl] at hi
    exact CQ_in h hl (by rw [ek]; omega) (by rw [ek]; omega) (by rw [ek]; omega)
  rw [ek1]
  by_cases z : Q l = 6
  · rw [if_pos z, bw_none _ fun i hi => (hin i hi).trans z]
  · rw [if_neg z]
    by_cases y : ovl S N a T l = 0
    · rw [y, if_neg (by omega)]; rfl
    · have hp : prA v c a (kbN S N a T l) ≠ Q l := by
        unfold prA
        by_cases x : kbN S N a T l = 0
        · rw [if_pos x]; exact fun q => z q.symm
        · rw [if_neg x]
          have hl0 : l ≠ 0 := fun q => x (by rw [q]; rfl)
          have hov : 0 < ovl S N a T l := by omega
          unfold ovl at hov
          rw [eSl] at hov
          have eS' : eS S N (l - 1 + 1) = S l := by rw [show l - 1 + 1 = l by omega]; exact eSl
          by_cases u : S (l - 1) ≤ a + (kbN S N a T l - 1)
          · rw [CQ_in h (show l - 1 < N by omega) u (by omega) (by rw [eS']; omega)]
            have := h.2.2.1 (l - 1) (by omega)
            rwa [show l - 1 + 1 = l by omega] at this
          · exfalso
            have := CQ_mono h (show l - 1 + 1 < N by omega)
            rw [show l - 1 + 1 = l by omega] at this
            by_cases u2 : l - 1 = 0
            · rw [u2, h.1.2.2.1] at u; omega
            · have := h.2.1 (l - 1) (by omega) (by omega)
              rw [show l - 1 + 1 = l by omega] at this
              omega
      exact (bw_same z hp _ hin).2
theorem Co_longestPart_8_s {v : eV} {c t : Nat} {S Q : Nat → Nat} {N : Nat} {m : eM} (h : CoP t S Q N m) (hq : CQ v c (nS v) S Q N) (d : Nat) {a T : Nat} (hT : T ≤ 1440) (ha : a ≤ T) : ∀ j l x3 w6, l + j = N → lpX v c S Q N a T l x3 → ∃ x, Co_longestPart_8 (d + 2) t (nI a) (nI T - 1) x3 (nI (bwV v c a (kbN S N a T l)).1) (nI l) w6 m = yI x m ∧ lpX v c S Q N a T N x
  | 0, l, x3, w6, e, hx => by
    have hN := h.2.2.2.1
    refine ⟨x3, ?_, by rw [show N = l by omega] at hx ⊢; exact hx⟩
    rw [Co_longestPart_8_e _ _ _ _ _ _ _ _ _ h.kd, h.2.2.1, if_pos (by rw [n_le (by omega) (by omega)]; omega)]
  | j + 1, l, x3, w6, e, hx => by
    have hN := h.2.2.2.1
    have hQ := (h.2.2.2.2 l (by omega)).2.2.2
    have st := lp_step hq hT ha (show l < N by omega)
    have hk := bwV_le v c a (kbN S N a T l)
    have hk0 : kbN S N a T l ≤ 1440 := by
      unfold kbN
      split <;> omega
    have ho : ovl S N a T l ≤ 1440 := by
      unfold ovl; omega
    have keep : bwV v c a (kbN S N a T (l + 1)) = bwV v c a (kbN S N a T l) → lpX v c S Q N a T (l + 1) x3 := fun q => by
      unfold lpX at hx ⊢
      rw [q]
      rcases hx with hx | ⟨j, h1, h2⟩
      · exact Or.inl hx
      · exact Or.inr ⟨j, by omega, h2⟩
    rw [Co_longestPart_8_e _ _ _ _ _ _ _ _ _ h.kd, h.2.2.1, if_neg (by rw [n_le (by omega) (by omega)]; omega), Co_whom_s h _ (by omega), bI_y, nI_1]
    by_cases z : Q l = 6
    · rw [if_pos z] at st
      rw [if_neg (fun q => q (by rw [z]; rfl)), if_pos (nI_pos' (by omega)), ← st]
      exact Co_longestPart_8_s h hq d hT ha j (l + 1) x3 _ (by omega) (keep st)
    · rw [if_neg z] at st
      rw [if_pos (show ¬ pI (Q l) = -1 from fun q => z ((pI_i hQ (by decide : 6 < 7)).mp q)), Co_minutesOf_s h (by omega) (by omega) (by omega) (by omega), bI_y]
      by_cases y : (bwV v c a (kbN S N a T l)).1 < ovl S N a T l
      · rw [if_pos y] at st
        have e1 : ovl S N a T l = (bwV v c a (kbN S N a T (l + 1))).1 := by rw [st]
        rw [if_neg (by rw [n_le (by omega) (by omega)]; omega)]
        have := Co_longestPart_8_s h hq d hT ha j (l + 1) (nI l) (.int (nI (ovl S N a T l))) (by omega) (Or.inr ⟨l, by omega, rfl, st, by omega⟩)
        rw [← e1] at this
        exact this
      · rw [if_neg y] at st
        rw [if_pos (by rw [n_le (by omega) (by omega)]; omega), ← st]
        exact Co_longestPart_8_s h hq d hT ha j (l + 1) x3 _ (by omega) (keep st)
theorem LC_longest_s {v : eV} (hv : Va v) {p : Nat} {m : eM} (h : Cn v p m) {D : Nat} (hD : 4 ≤ D) (c a b w : Int32) : ∃ m', Fr sK m m' ∧ LC_longest D 3 c a b w m = yI (sp_longest v c a b w) m' := by
  obtain ⟨d, rfl⟩ : ∃ d, D = d + 4 := ⟨D - 4, by omega⟩
  have hs := h.sk
  have e0 : LC_longest (d + 4) 3 c a b w m = if spS v c a b = true then (if inN w 2 = true then (bV (Co_follow (d + 3) 55 9 c m) fun m14 => bR (gR m14 3 7) fun r15 => gd r15 1 (bI (Co_longestPart (d + 3) r15 a b m14) fun v18 m17 => if ¬ v18 = (-1 : Int32) then (if ¬ w = 0 then (bR (gR m17 3 7) fun r19 => gd r19 1 (bI (Co_whom (d + 3) r19 v18 m17) fun v22 m21 => yI v22 m21)) else (bR (gR m17 3 7) fun r23 => gd r23 1 (bI (Co_minutesOf (d + 3) r23 v18 a b m17) fun v26 m25 => yI v26 m25))) else (yI (-1 : Int32) m17))) else yI (-1) m) else yI (-1) m := by
    rw [LC_longest_e _ _ _ _ _ _ _ kd_3, rf_3_2 hs, bR_s, gd9, h.r0, bR_s, h.gp, Pa_isThere_s hv h.p (by omega), br0, LC_isSpan_s (by omega), br0, LC_isWhat_s, br1, rf_3_7 hs, bR_s, rf_3_2 hs, bR_s, gd55]
    unfold spS
    cases thr v c
    · rfl
    · cases (inN a 1440 && (inN b 1440 && !decide (b < a)))
      · rfl
      · rfl
  rw [e0]
  unfold sp_longest
  by_cases z1 : spS v c a b = true
  · rw [if_pos z1, if_pos z1]
    by_cases z2 : inN w 2 = true
    · rw [if_pos z2, if_pos z2]
      obtain ⟨k, i, j, hk, hi, hj, hij, rfl, rfl, rfl⟩ := spS_of z1
      obtain ⟨m1, S, Q, N, f1, e1, h1, h2⟩ := Co_follow_s hv (t := 55) (Or.inl rfl) (show 3 ≤ d + 3 by omega) hk h
      have hs1 := (h.q (sc_K (Or.inl rfl) f1)).sk
      refine ⟨m1, sc_K (Or.inl rfl) f1, ?_⟩
      have hN := h1.2.2.2.1
      have hN0 := h2.1.1
      obtain ⟨x, e2, hx⟩ := Co_longestPart_8_s h1 h2 (d + 1) (a := i) (T := j + 1) (by omega) (by omega) N 0 (-1) eU (by omega) (Or.inl ⟨rfl, rfl⟩)
      have ekN : kbN S N i (j + 1) N = j + 1 - i := by
        unfold kbN
        rw [if_neg (by omega), show eS S N N = 1440 from if_neg (Nat.lt_irrefl _)]
        omega
      have e2 : Co_longestPart_8 (d + 3) 55 (nI i) (nI (j + 1) - 1) (-1) (0 : Int32) (0 : Int32) eU m1 = yI x m1 := e2
      rw [← n_as] at e2
      unfold lpX at hx
      rw [ekN] at hx
      rw [e1, bV_y, rf_3_7 hs1, bR_s, gd55, Co_longestPart_e _ _ _ _ _ kd_55, e2, bI_y, n_cl (by omega), n_cl (by omega), n_cl (by omega)]
      rcases hx with ⟨q1, q2⟩ | ⟨l, q1, q2, q3, q4⟩
      · rw [q1, q2, if_neg (fun q => q rfl)]
        rfl
      · have hnm : ¬ nI l = -1 := fun q => by
          have := congrArg Int32.toInt q
          rw [nI_toInt (by omega)] at this
          have e1 : (-1 : Int32).toInt = -1 := by decide
          omega
        rw [q2, if_pos hnm, q3]
        unfold lonV
        rw [if_neg (show ¬ (ovl S N i (j + 1) l, Q l).1 = 0 from fun q => by have q : ovl S N i (j + 1) l = 0 := q; omega)]
        by_cases y : w = 0
        · rw [if_neg (fun q => q y), if_pos y, rf_3_7 hs1, bR_s, gd55, n_as j, Co_minutesOf_s h1 (by omega) q1 (by omega) (by omega), bI_y]
        · rw [if_pos y, if_neg y, rf_3_7 hs1, bR_s, gd55, Co_whom_s h1 _ q1, bI_y]
    · rw [if_neg z2, if_neg z2]
      exact ⟨_, Fr.rfl', rfl⟩
  · rw [if_neg z1, if_neg z1]
    exact ⟨_, Fr.rfl', rfl⟩
