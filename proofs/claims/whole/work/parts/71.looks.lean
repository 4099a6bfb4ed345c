/-! ===== look and watch ===== -/
/-- the cells of looks: their size and places -/
def LkZ (l n : Nat) (m : eM) : Prop := stK l ∧ LkR l m ∧ gI m l 4 = nI n
def sLk (l a _ : Nat) : Bool := decide (l ≤ a ∧ a ≤ l + 4)
theorem sLk_n {l a j : Nat} (h : a < l ∨ l + 4 < a) : sLk l a j = false := decide_eq_false (by omega)
theorem LkP.z {l n : Nat} {fc fm ff ft : Nat → Nat} {m : eM} (h : LkP l n fc fm ff ft m) : LkZ l n m := ⟨h.1, h.2.1, h.2.2.1⟩
/-- the memory behind an added look -/
def wrK (l n : Nat) (c mn f t : Int32) (m : eM) : eM := sI (sI (sI (sI (sI m (l + 1) n c) (l + 2) n mn) (l + 3) n f) (l + 4) n t) l 4 (nI (n + 1))
theorem wrK_f (l n : Nat) (c mn f t : Int32) (m : eM) : Fr (sLk l) m (wrK l n c mn f t m) := ((((Fr.rfl'.i (decide_eq_true (by omega))).i (decide_eq_true (by omega))).i (decide_eq_true (by omega))).i (decide_eq_true (by omega))).i (decide_eq_true (by omega))
theorem wrK_g {l n : Nat} {c mn f t : Int32} {m : eM} : gI (wrK l n c mn f t m) l 4 = nI (n + 1) ∧ ∀ i, gI (wrK l n c mn f t m) (l + 1) i = (if i = n then c else gI m (l + 1) i) ∧ gI (wrK l n c mn f t m) (l + 2) i = (if i = n then mn else gI m (l + 2) i) ∧ gI (wrK l n c mn f t m) (l + 3) i = (if i = n then f else gI m (l + 3) i) ∧ gI (wrK l n c mn f t m) (l + 4) i = (if i = n then t else gI m (l + 4) i) := by
  unfold wrK
  refine ⟨gI_w _ _ _ _, fun i => ?_⟩
  simp only [gI_sI]
  by_cases z : i = n
  · subst z
    refine ⟨?_, ?_, ?_, ?_⟩
    · rw [if_neg (by omega), if_neg (by omega), if_neg (by omega), if_neg (by omega), if_pos (by simp), if_pos rfl]
    · rw [if_neg (by omega), if_neg (by omega), if_neg (by omega), if_pos (by simp), if_pos rfl]
    · rw [if_neg (by omega), if_neg (by omega), if_pos (by simp), if_pos rfl]
    · rw [if_neg (by omega), if_pos (by simp), if_pos rfl]
  · refine ⟨?_, ?_, ?_, ?_⟩ <;> rw [if_neg (by omega), if_neg (by omega), if_neg (by omega), if_neg (by omega), if_neg (by omega), if_neg z]
theorem Lo_add_s {l n : Nat} {m : eM} (h : LkZ l n m) (hn : n < 12) (d : Nat) (c mn f t : Int32) : Lo_add d l c mn f t m = yI (nI n) (wrK l n c mn f t m) := by
  obtain ⟨⟨h0, k0, k1, k2, k3, k4⟩, ⟨r0, r1, r2, r3⟩, h4⟩ := h
  have n12 : ¬ (nI 12 ≤ nI n) := by rw [n_le (by omega) (by omega)]; omega
  have p12 : nI n < nI 12 := by rw [n_lt (by omega) (by omega)]; omega
  rw [Lo_add_e _ _ _ _ _ _ _ (kd_of k0), h4, if_neg (nI_pos (by omega)), r0, bR_s, pk_gl k1 (by decide), pk_len k1 (by omega), toI, if_neg n12, r1, bR_s, pk_gl k2 (by decide), pk_len k2 (by omega), toI, if_neg n12, r2, bR_s, pk_gl k3 (by decide), pk_len k3 (by omega), toI, if_neg n12, r3, bR_s, pk_gl k4 (by decide), pk_len k4 (by omega), toI, if_pos p12, bR_s, pk_gw k1 h0 (by omega) (by decide), mI_u, gR_sI, r1, bR_s, pk_gw k2 h0 (by omega) (by decide), mI_u, gR_sI, gR_sI, r2, bR_s, pk_gw k3 h0 (by omega) (by decide), mI_u, gR_sI, gR_sI, gR_sI, r3, bR_s, pk_gw k4 h0 (by omega) (by decide), mI_u, mI_u, n_cl (by omega)]
  have e : ∀ x1 x2 x3 x4 : Int32, gI (sI (sI (sI (sI m (l + 1) n x1) (l + 2) n x2) (l + 3) n x3) (l + 4) n x4) l 4 = nI n := fun x1 x2 x3 x4 => by
    rw [gI_sI, if_neg (by omega), gI_sI, if_neg (by omega), gI_sI, if_neg (by omega), gI_sI, if_neg (by omega), h4]
  rw [e, nI_1]
  rfl
def vLk (v : eV) (c mn f t : Nat) : eV := upV (upV (upV (upV (upV v 12 (nL v) c) 13 (nL v) mn) 14 (nL v) f) 15 (nL v) t) 0 6 (nL v + 1)
theorem vLk_l (v : eV) (c mn f t : Nat) : nL (vLk v c mn f t) = nL v + 1 := rfl
theorem vLk_j (v : eV) (c mn f t i : Nat) : lkC (vLk v c mn f t) i = (if i = nL v then c else lkC v i) ∧ lkM (vLk v c mn f t) i = (if i = nL v then mn else lkM v i) ∧ lkF (vLk v c mn f t) i = (if i = nL v then f else lkF v i) ∧ lkT (vLk v c mn f t) i = (if i = nL v then t else lkT v i) := by
  by_cases z : i = nL v
  · rw [if_pos z, if_pos z, if_pos z, if_pos z]
    refine ⟨?_, ?_, ?_, ?_⟩
    · show (if 12 = 12 ∧ i = nL v then c else lkC v i) = c
      rw [if_pos ⟨rfl, z⟩]
    · show (if 13 = 13 ∧ i = nL v then mn else lkM v i) = mn
      rw [if_pos ⟨rfl, z⟩]
    · show (if 14 = 14 ∧ i = nL v then f else lkF v i) = f
      rw [if_pos ⟨rfl, z⟩]
    · show (if 15 = 15 ∧ i = nL v then t else lkT v i) = t
      rw [if_pos ⟨rfl, z⟩]
  · rw [if_neg z, if_neg z, if_neg z, if_neg z]
    refine ⟨?_, ?_, ?_, ?_⟩
    · show (if 12 = 12 ∧ i = nL v then c else lkC v i) = _
      rw [if_neg (fun q => z q.2)]
    · show (if 13 = 13 ∧ i = nL v then mn else lkM v i) = _
      rw [if_neg (fun q => z q.2)]
    · show (if 14 = 14 ∧ i = nL v then f else lkF v i) = _
      rw [if_neg (fun q => z q.2)]
    · show (if 15 = 15 ∧ i = nL v then t else lkT v i) = _
      rw [if_neg (fun q => z q.2)]
theorem vLk_va {v : eV} (hv : Va v) {c mn f t : Nat} (hn : nL v < 12) (hc : c < 2) (hm : mn < 1440) (hf : f < 360) (ht : t < 360) : Va (vLk v c mn f t) := by
  obtain ⟨a1, ⟨b1, b2, b3, b4⟩, a3, a4, a5, a6, a7, a8, a9, a10, a11, a12, a13, a14, a15, a16⟩ := hv
  refine ⟨a1, ⟨b1, b2, (show nL v + 1 ≤ 12 by omega), b4⟩, a3, a4, a5, a6, a7, a8, a9, a10, a11, a12, a13, fun j hj => ?_, a15, a16⟩
  have hj : j < nL v + 1 := hj
  obtain ⟨e1, e2, e3, e4⟩ := vLk_j v c mn f t j
  rw [e1, e2, e3, e4]
  by_cases z : j = nL v
  · rw [if_pos z, if_pos z, if_pos z, if_pos z]; exact ⟨hc, hm, hf, ht⟩
  · rw [if_neg z, if_neg z, if_neg z, if_neg z]; exact a14 j (by omega)
def okLk (v : eV) (c mn f t : Int32) : Bool := thr v c && (inN mn 1440 && (inN f 360 && (inN t 360 && decide (nL v < 12))))
def nx_look (v : eV) (c mn f t : Int32) : eV := if okLk v c mn f t = true then vLk v c.toNatClampNeg mn.toNatClampNeg f.toNatClampNeg t.toNatClampNeg else v
def sp_look (v : eV) (c mn f t : Int32) : Int32 := if okLk v c mn f t = true then nI (nL v) else -1
theorem okLk_of {v : eV} {c mn f t : Int32} (h : okLk v c mn f t = true) : ∃ c' mn' f' t', c = nI c' ∧ mn = nI mn' ∧ f = nI f' ∧ t = nI t' ∧ c' < 2 ∧ mn' < 1440 ∧ f' < 360 ∧ t' < 360 ∧ nL v < 12 ∧ nx_look v c mn f t = vLk v c' mn' f' t' ∧ sp_look v c mn f t = nI (nL v) := by
  have h0 := h
  unfold okLk at h
  rw [Bool.and_eq_true, Bool.and_eq_true, Bool.and_eq_true, Bool.and_eq_true, decide_eq_true_iff] at h
  obtain ⟨h1, h2, h3, h4, h5⟩ := h
  obtain ⟨c', hc, rfl, -⟩ := thr_of h1
  obtain ⟨mn', hm, rfl⟩ := inN_of (by decide) h2
  obtain ⟨f', hf, rfl⟩ := inN_of (by decide) h3
  obtain ⟨t', ht, rfl⟩ := inN_of (by decide) h4
  refine ⟨c', mn', f', t', rfl, rfl, rfl, rfl, hc, hm, hf, ht, h5, ?_, ?_⟩
  · unfold nx_look
    rw [if_pos h0, n_cl (by omega), n_cl (by omega), n_cl (by omega), n_cl (by omega)]
  · unfold sp_look
    rw [if_pos h0]
theorem va_look {v : eV} (hv : Va v) (c mn f t : Int32) : Va (nx_look v c mn f t) := by
  by_cases z : okLk v c mn f t = true
  · obtain ⟨c', mn', f', t', -, -, -, -, h1, h2, h3, h4, h5, h6, -⟩ := okLk_of z
    rw [h6]; exact vLk_va hv h5 h1 h2 h3 h4
  · unfold nx_look
    rw [if_neg z]; exact hv
theorem Mo_look_s {v : eV} (hv : Va v) {m : eM} (h : Mp v m) {D : Nat} (hD : 1 ≤ D) (c mn f t : Int32) : ∃ m', Fr sMu m m' ∧ Mo_look D 208 c mn f t m = yI (sp_look v c mn f t) m' ∧ Mp (nx_look v c mn f t) m' := by
  obtain ⟨d, rfl⟩ : ∃ d, D = d + 1 := ⟨D - 1, by omega⟩
  have f0 : Fr sQ m (sI m 208 0 0) := Fr.rfl'.i rfl
  have h0 := h.q f0
  have hs := h0.sk
  have hL := hv.l
  rw [Mo_look_e _ _ _ _ _ _ _ kd_208, mI_u, Mo_isThere_s hv h0 hs, br0, Mo_isMinute_s, br0, Mo_isBearing_s, br0, Mo_isBearing_s, br0, mp_l h0]
  by_cases z : okLk v c mn f t = true
  · obtain ⟨c', mn', f', t', rfl, rfl, rfl, rfl, h1, h2, h3, h4, h5, h6, h7⟩ := okLk_of z
    rw [h6, h7]
    unfold okLk at z
    rw [Bool.and_eq_true, Bool.and_eq_true, Bool.and_eq_true, Bool.and_eq_true, decide_eq_true_iff] at z
    obtain ⟨z1, z2, z3, z4, -⟩ := z
    rw [if_pos z1, if_pos z2, if_pos z3, if_pos z4, if_pos (by rw [show (12 : Int32) = nI 12 from rfl, n_eq (by omega) (by omega)]; omega), rf_208_52 hs, bR_s, gw_243 (by omega), mI_u, gR_sI, rf_208_53 hs, bR_s, gI_sI, if_neg (by omega), mp_l h0, gw_244 (by omega), mI_u, n_cl (by omega)]
    have q42 : gI (sI m 208 0 0) 208 42 = nI (nL v) := mp_l h0
    have hA := ((((h0.up (a := 243) (j := nL v) (q := (12, nL v)) (by simp [mpI, h5]) c').up (a := 244) (j := nL v) (q := (13, nL v)) (by simp [mpI, h5]) mn').up (a := 245) (j := nL v) (q := (14, nL v)) (by simp [mpI, h5]) f').up (a := 246) (j := nL v) (q := (15, nL v)) (by simp [mpI, h5]) t')
    have hs2 : Sk (sI (sI (sI m 208 0 0) 243 (nL v) (nI c')) 244 (nL v) (nI mn')) := hs
    have e2 : gI (sI (sI (sI m 208 0 0) 243 (nL v) (nI c')) 244 (nL v) (nI mn')) 208 42 = nI (nL v) := q42
    rw [rf_208_54 hs2, bR_s, e2, gw_245 (by omega), mI_u, n_cl (by omega)]
    have hs3 : Sk (sI (sI (sI (sI m 208 0 0) 243 (nL v) (nI c')) 244 (nL v) (nI mn')) 245 (nL v) (nI f')) := hs
    have e3 : gI (sI (sI (sI (sI m 208 0 0) 243 (nL v) (nI c')) 244 (nL v) (nI mn')) 245 (nL v) (nI f')) 208 42 = nI (nL v) := q42
    rw [rf_208_55 hs3, bR_s, e3, gw_246 (by omega), mI_u, n_cl (by omega)]
    have e4 : gI (sI (sI (sI (sI (sI m 208 0 0) 243 (nL v) (nI c')) 244 (nL v) (nI mn')) 245 (nL v) (nI f')) 246 (nL v) (nI t')) 208 42 = nI (nL v) := q42
    rw [e4, mI_u, gI_w, nI_1, nI_pred]
    refine ⟨_, (((((f0.qu.i (by simp [sMu])).i (by simp [sMu])).i (by simp [sMu])).i (by simp [sMu])).i (by simp [sMu])), rfl, ?_⟩
    exact hA.up (a := 208) (j := 42) (q := (0, 6)) rfl (nL v + 1)
  · have e1 : sp_look v c mn f t = -1 := if_neg z
    have e2 : nx_look v c mn f t = v := if_neg z
    rw [e1, e2]
    refine ⟨_, f0.qu, ?_, h0⟩
    by_cases z1 : thr v c = true
    · rw [if_pos z1]
      by_cases z2 : inN mn 1440 = true
      · rw [if_pos z2]
        by_cases z3 : inN f 360 = true
        · rw [if_pos z3]
          by_cases z4 : inN t 360 = true
          · rw [if_pos z4, if_neg]
            rw [show (12 : Int32) = nI 12 from rfl, n_eq (by omega) (by omega)]
            intro q
            apply z
            unfold okLk
            rw [z1, z2, z3, z4, decide_eq_true (by omega)]; rfl
          · rw [if_neg z4]
        · rw [if_neg z3]
      · rw [if_neg z2]
    · rw [if_neg z1]
theorem LC_look_s {v : eV} (hv : Va v) {p : Nat} {m : eM} (h : Cn v p m) {D : Nat} (hD : 2 ≤ D) (c mn f t : Int32) : ∃ m', Fr sCu m m' ∧ LC_look D 3 c mn f t m = yI (sp_look v c mn f t) m' ∧ Cn (nx_look v c mn f t) p m' := by
  obtain ⟨d, rfl⟩ : ∃ d, D = d + 2 := ⟨D - 2, by omega⟩
  have hs := h.sk
  have hL := hv.l
  rw [LC_look_e _ _ _ _ _ _ _ kd_3, rf_3_2 hs, bR_s, gd9, h.r0, bR_s, h.gp, Pa_isThere_s hv h.p (by omega), br0, LC_isMinute_s, br0, LC_isBearing_s, br0, LC_isBearing_s, br0, rf_3_2 hs, bR_s, gd9, rf_9_3 hs, bR_s, gd34, Lo_size_e _ _ _ kd_34, h.l.2.2.1, bI_y]
  by_cases z : okLk v c mn f t = true
  · obtain ⟨c', mn', f', t', rfl, rfl, rfl, rfl, h1, h2, h3, h4, h5, h6, h7⟩ := okLk_of z
    rw [h6, h7]
    unfold okLk at z
    rw [Bool.and_eq_true, Bool.and_eq_true, Bool.and_eq_true, Bool.and_eq_true, decide_eq_true_iff] at z
    obtain ⟨z1, z2, z3, z4, -⟩ := z
    rw [if_pos z1, if_pos z2, if_pos z3, if_pos z4, if_pos (by rw [show (12 : Int32) = nI 12 from rfl, n_lt (by omega) (by omega)]; omega), rf_3_2 hs, bR_s, gd9, rf_9_3 hs, bR_s, gd34, Lo_add_s h.l.z h5, bI_y]
    have f := wrK_f 34 (nL v) (nI c') (nI mn') (nI f') (nI t') m
    have fu : Fr sCu m (wrK 34 (nL v) (nI c') (nI mn') (nI f') (nI t') m) := f.up fun a j q => sLk_n (by
      have := of_decide_eq_false q
      omega)
    have hpO := h.2.2.2
    obtain ⟨g4, gi⟩ := wrK_g (l := 34) (n := nL v) (c := nI c') (mn := nI mn') (f := nI f') (t := nI t') (m := m)
    refine ⟨_, fu, rfl, ⟨h.1.1, (f.1 9 5 (sLk_n (by omega))).trans h.1.2.1, h.p.fr f fun a _ q1 q2 => sLk_n (by rcases hpO with y | y | y | y | y | y <;> omega), h.t.fr f fun a _ q1 q2 => sLk_n (by omega), h.o.fr f fun a _ q1 q2 => sLk_n (by omega), ⟨h.l.1, h.l.2.1, g4, (show nL v + 1 ≤ 12 by omega), fun i hi => ?_⟩, h.w.fr f fun a _ q1 q2 => sLk_n (by omega)⟩, h.ss.fr f (fun _ => sLk_n (by omega)) (fun _ => sLk_n (by omega)), f.sk hs, hpO⟩
    have hi : i < nL v + 1 := hi
    obtain ⟨g1, g2, g3, g5⟩ := gi i
    obtain ⟨e1, e2, e3, e5⟩ := vLk_j v c' mn' f' t' i
    show gI (wrK 34 (nL v) (nI c') (nI mn') (nI f') (nI t') m) (34 + 1) i = _ ∧ gI (wrK 34 (nL v) (nI c') (nI mn') (nI f') (nI t') m) (34 + 2) i = _ ∧ gI (wrK 34 (nL v) (nI c') (nI mn') (nI f') (nI t') m) (34 + 3) i = _ ∧ gI (wrK 34 (nL v) (nI c') (nI mn') (nI f') (nI t') m) (34 + 4) i = _
    rw [g1, g2, g3, g5, e1, e2, e3, e5]
    by_cases y : i = nL v
    · rw [if_pos y, if_pos y, if_pos y, if_pos y, if_pos y, if_pos y, if_pos y, if_pos y]; exact ⟨rfl, rfl, rfl, rfl⟩
    · rw [if_neg y, if_neg y, if_neg y, if_neg y, if_neg y, if_neg y, if_neg y, if_neg y]
      exact h.l.2.2.2.2 i (by omega)
  · have e1 : sp_look v c mn f t = -1 := if_neg z
    have e2 : nx_look v c mn f t = v := if_neg z
    rw [e1, e2]
    refine ⟨_, Fr.rfl', ?_, h⟩
    by_cases z1 : thr v c = true
    · rw [if_pos z1]
      by_cases z2 : inN mn 1440 = true
      · rw [if_pos z2]
        by_cases z3 : inN f 360 = true
        · rw [if_pos z3]
          by_cases z4 : inN t 360 = true
          · rw [if_pos z4, if_neg]
            rw [show (12 : Int32) = nI 12 from rfl, n_lt (by omega) (by omega)]
            intro q
            apply z
            unfold okLk
            rw [z1, z2, z3, z4, decide_eq_true (by omega)]; rfl
          · rw [if_neg z4]
        · rw [if_neg z3]
      · rw [if_neg z2]
    · rw [if_neg z1]
/-! watch -/
def vWt (v : eV) (c mn : Nat) : eV := upV (upV (upV v 16 (nWt v) c) 17 (nWt v) mn) 0 7 (nWt v + 1)
theorem vWt_j (v : eV) (c mn i : Nat) : wtC (vWt v c mn) i = (if i = nWt v then c else wtC v i) ∧ wtM (vWt v c mn) i = (if i = nWt v then mn else wtM v i) := by
  by_cases z : i = nWt v
  · rw [if_pos z, if_pos z]
    refine ⟨?_, ?_⟩
    · show (if 16 = 16 ∧ i = nWt v then c else wtC v i) = c
      rw [if_pos ⟨rfl, z⟩]
    · show (if 17 = 17 ∧ i = nWt v then mn else wtM v i) = mn
      rw [if_pos ⟨rfl, z⟩]
  · rw [if_neg z, if_neg z]
    refine ⟨?_, ?_⟩
    · show (if 16 = 16 ∧ i = nWt v then c else wtC v i) = _
      rw [if_neg (fun q => z q.2)]
    · show (if 17 = 17 ∧ i = nWt v then mn else wtM v i) = _
      rw [if_neg (fun q => z q.2)]
theorem vWt_va {v : eV} (hv : Va v) {c mn : Nat} (hn : nWt v < 4) (hc : c < 2) (hm : mn < 1440) : Va (vWt v c mn) := by
  obtain ⟨a1, ⟨b1, b2, b3, b4⟩, a3, a4, a5, a6, a7, a8, a9, a10, a11, a12, a13, a14, a15, a16⟩ := hv
  refine ⟨a1, ⟨b1, b2, b3, (show nWt v + 1 ≤ 4 by omega)⟩, a3, a4, a5, a6, a7, a8, a9, a10, a11, a12, a13, a14, fun j hj => ?_, a16⟩
  have hj : j < nWt v + 1 := hj
  obtain ⟨e1, e2⟩ := vWt_j v c mn j
  rw [e1, e2]
  by_cases z : j = nWt v
  · rw [if_pos z, if_pos z]; exact ⟨hc, hm⟩
  · rw [if_neg z, if_neg z]; exact a15 j (by omega)
def okWt (v : eV) (c mn : Int32) : Bool := thr v c && (inN mn 1440 && decide (nWt v < 4))
def nx_watch (v : eV) (c mn : Int32) : eV := if okWt v c mn = true then vWt v c.toNatClampNeg mn.toNatClampNeg else v
def sp_watch (v : eV) (c mn : Int32) : Int32 := if okWt v c mn = true then nI (nWt v) else -1
theorem okWt_of {v : eV} {c mn : Int32} (h : okWt v c mn = true) : ∃ c' mn', c = nI c' ∧ mn = nI mn' ∧ c' < 2 ∧ mn' < 1440 ∧ nWt v < 4 ∧ nx_watch v c mn = vWt v c' mn' ∧ sp_watch v c mn = nI (nWt v) := by
  have h0 := h
  unfold okWt at h
  rw [Bool.and_eq_true, Bool.and_eq_true, decide_eq_true_iff] at h
  obtain ⟨h1, h2, h5⟩ := h
  obtain ⟨c', hc, rfl, -⟩ := thr_of h1
  obtain ⟨mn', hm, rfl⟩ := inN_of (by decide) h2
  refine ⟨c', mn', rfl, rfl, hc, hm, h5, ?_, ?_⟩
  · unfold nx_watch
    rw [if_pos h0, n_cl (by omega), n_cl (by omega)]
  · unfold sp_watch
    rw [if_pos h0]
theorem va_watch {v : eV} (hv : Va v) (c mn : Int32) : Va (nx_watch v c mn) := by
  by_cases z : okWt v c mn = true
  · obtain ⟨c', mn', -, -, h1, h2, h5, h6, -⟩ := okWt_of z
    rw [h6]; exact vWt_va hv h5 h1 h2
  · unfold nx_watch
    rw [if_neg z]; exact hv
theorem Mo_watch_s {v : eV} (hv : Va v) {m : eM} (h : Mp v m) {D : Nat} (hD : 1 ≤ D) (c mn : Int32) : ∃ m', Fr sMu m m' ∧ Mo_watch D 208 c mn m = yI (sp_watch v c mn) m' ∧ Mp (nx_watch v c mn) m' := by
  obtain ⟨d, rfl⟩ : ∃ d, D = d + 1 := ⟨D - 1, by omega⟩
  have f0 : Fr sQ m (sI m 208 0 0) := Fr.rfl'.i rfl
  have h0 := h.q f0
  have hs := h0.sk
  have hL := hv.wt
  rw [Mo_watch_e _ _ _ _ _ kd_208, mI_u, Mo_isThere_s hv h0 hs, br0, Mo_isMinute_s, br0, mp_w h0]
  by_cases z : okWt v c mn = true
  · obtain ⟨c', mn', rfl, rfl, h1, h2, h5, h6, h7⟩ := okWt_of z
    rw [h6, h7]
    unfold okWt at z
    rw [Bool.and_eq_true, Bool.and_eq_true, decide_eq_true_iff] at z
    obtain ⟨z1, z2, -⟩ := z
    rw [if_pos z1, if_pos z2, if_pos (by rw [show (4 : Int32) = nI 4 from rfl, n_eq (by omega) (by omega)]; omega), rf_208_59 hs, bR_s, gw_250 (by omega), mI_u, gR_sI, rf_208_60 hs, bR_s, gI_sI, if_neg (by omega), mp_w h0, gw_251 (by omega), mI_u, n_cl (by omega)]
    have q43 : gI (sI m 208 0 0) 208 43 = nI (nWt v) := mp_w h0
    have hA := ((h0.up (a := 250) (j := nWt v) (q := (16, nWt v)) (by simp [mpI, h5]) c').up (a := 251) (j := nWt v) (q := (17, nWt v)) (by simp [mpI, h5]) mn')
    have e2 : gI (sI (sI (sI m 208 0 0) 250 (nWt v) (nI c')) 251 (nWt v) (nI mn')) 208 43 = nI (nWt v) := q43
    rw [e2, mI_u, gI_w, nI_1, nI_pred]
    refine ⟨_, (((f0.qu.i (by simp [sMu])).i (by simp [sMu])).i (by simp [sMu])), rfl, ?_⟩
    exact hA.up (a := 208) (j := 43) (q := (0, 7)) rfl (nWt v + 1)
  · have e1 : sp_watch v c mn = -1 := if_neg z
    have e2 : nx_watch v c mn = v := if_neg z
    rw [e1, e2]
    refine ⟨_, f0.qu, ?_, h0⟩
    by_cases z1 : thr v c = true
    · rw [if_pos z1]
      by_cases z2 : inN mn 1440 = true
      · rw [if_pos z2, if_neg]
        rw [show (4 : Int32) = nI 4 from rfl, n_eq (by omega) (by omega)]
        intro q
        apply z
        unfold okWt
        rw [z1, z2, decide_eq_true (by omega)]; rfl
      · rw [if_neg z2]
    · rw [if_neg z1]
theorem LC_watch_s {v : eV} (hv : Va v) {p : Nat} {m : eM} (h : Cn v p m) {D : Nat} (hD : 2 ≤ D) (c mn : Int32) : ∃ m', Fr sCu m m' ∧ LC_watch D 3 c mn m = yI (sp_watch v c mn) m' ∧ Cn (nx_watch v c mn) p m' := by
  obtain ⟨d, rfl⟩ : ∃ d, D = d + 2 := ⟨D - 2, by omega⟩
  have hs := h.sk
  have hL := hv.wt
  rw [LC_watch_e _ _ _ _ _ kd_3, rf_3_2 hs, bR_s, gd9, h.r0, bR_s, h.gp, Pa_isThere_s hv h.p (by omega), br0, LC_isMinute_s, br0, rf_3_2 hs, bR_s, gd9, rf_9_4 hs, bR_s, gd39, Lo_size_e _ _ _ kd_39, h.w.2.2.1, bI_y]
  by_cases z : okWt v c mn = true
  · obtain ⟨c', mn', rfl, rfl, h1, h2, h5, h6, h7⟩ := okWt_of z
    rw [h6, h7]
    unfold okWt at z
    rw [Bool.and_eq_true, Bool.and_eq_true, decide_eq_true_iff] at z
    obtain ⟨z1, z2, -⟩ := z
    rw [if_pos z1, if_pos z2, if_pos (by rw [show (4 : Int32) = nI 4 from rfl, n_lt (by omega) (by omega)]; omega), rf_3_2 hs, bR_s, gd9, rf_9_4 hs, bR_s, gd39, Lo_add_s h.w.z (by omega), bI_y]
    have f := wrK_f 39 (nWt v) (nI c') (nI mn') 0 0 m
    have fu : Fr sCu m (wrK 39 (nWt v) (nI c') (nI mn') 0 0 m) := f.up fun a j q => sLk_n (by
      have := of_decide_eq_false q
      omega)
    have hpO := h.2.2.2
    obtain ⟨g4, gi⟩ := wrK_g (l := 39) (n := nWt v) (c := nI c') (mn := nI mn') (f := 0) (t := 0) (m := m)
    refine ⟨_, fu, rfl, ⟨h.1.1, (f.1 9 5 (sLk_n (by omega))).trans h.1.2.1, h.p.fr f fun a _ q1 q2 => sLk_n (by rcases hpO with y | y | y | y | y | y <;> omega), h.t.fr f fun a _ q1 q2 => sLk_n (by omega), h.o.fr f fun a _ q1 q2 => sLk_n (by omega), h.l.fr f fun a _ q1 q2 => sLk_n (by omega), ⟨h.w.1, h.w.2.1, g4, (show nWt v + 1 ≤ 12 by omega), fun i hi => ?_⟩⟩, h.ss.fr f (fun _ => sLk_n (by omega)) (fun _ => sLk_n (by omega)), f.sk hs, hpO⟩
    have hi : i < nWt v + 1 := hi
    obtain ⟨g1, g2, g3, g5⟩ := gi i
    obtain ⟨e1, e2⟩ := vWt_j v c' mn' i
    show gI (wrK 39 (nWt v) (nI c') (nI mn') 0 0 m) (39 + 1) i = _ ∧ gI (wrK 39 (nWt v) (nI c') (nI mn') 0 0 m) (39 + 2) i = _ ∧ gI (wrK 39 (nWt v) (nI c') (nI mn') 0 0 m) (39 + 3) i = _ ∧ gI (wrK 39 (nWt v) (nI c') (nI mn') 0 0 m) (39 + 4) i = _
    rw [g1, g2, g3, g5, e1, e2]
    by_cases y : i = nWt v
    · rw [if_pos y, if_pos y, if_pos y, if_pos y, if_pos y, if_pos y]; exact ⟨rfl, rfl, rfl, rfl⟩
    · rw [if_neg y, if_neg y, if_neg y, if_neg y, if_neg y, if_neg y]
      exact h.w.2.2.2.2 i (by omega)
  · have e1 : sp_watch v c mn = -1 := if_neg z
    have e2 : nx_watch v c mn = v := if_neg z
    rw [e1, e2]
    refine ⟨_, Fr.rfl', ?_, h⟩
    by_cases z1 : thr v c = true
    · rw [if_pos z1]
      by_cases z2 : inN mn 1440 = true
      · rw [if_pos z2, if_neg]
        rw [show (4 : Int32) = nI 4 from rfl, n_lt (by omega) (by omega)]
        intro q
        apply z
        unfold okWt
        rw [z1, z2, decide_eq_true (by omega)]; rfl
      · rw [if_neg z2]
    · rw [if_neg z1]
