/-! ===== mark, both sides ===== -/
theorem kC_len {i : Nat} {c : Nat × Nat} (h : kC22[i]? = some c) : i < 185 := by
  have := (List.getElem?_eq_some_iff.mp h).1
  rw [kC22_l] at this
  exact this
theorem Mo_mark_save {v : eV} (hv : Va v) (hb : Vb v) {t : Nat} {tp : Nat → Nat} {V : Nat → Option eV} {m : eM} (h : MI v t tp V m) {k : Nat} (hk : k < 4) (d : Nat) : ∃ m', Fr sMd m m' ∧ Mo_mark_29 (d + 2) 208 (nI k) (bb false) m = yI 1 m' ∧ MI v t tp (fun j => if j = k then some v else V j) m' := by
  obtain ⟨hm, ⟨t1, t2⟩, hV⟩ := h
  have hs := hm.sk
  have e := Mo_mark_29_s (B := false) hk hs d (fun _ j hj => by rw [mp_isc hm hj]; exact le1 (hv.ic hj)) (fun q => by cases q) (fun _ j hj => by rw [mp_isq hm hj]; exact le1 (hb j hj)) (fun q => by cases q)
  obtain ⟨m0, hm0⟩ : ∃ m0, m0 = sI (sI m 255 k 1) 208 68 (nI (300 * k)) := ⟨_, rfl⟩
  rw [← hm0] at e
  have f0 : Fr (fun a j => (a == 255 && j == k) || (a == 208 && j == 68)) m m0 := by
    rw [hm0]
    exact (Fr.rfl'.i (by simp)).i (by simp)
  obtain ⟨f1, h1⟩ := kp_0 kC22 (300 * k) m0 kC_ok
  rw [kC22_l] at f1
  obtain ⟨f2, g1, g2, g3⟩ := kq0_f (k := k) (kp false kC22 (300 * k) m0)
  refine ⟨_, ?_, e, ?_, ⟨?_, fun i hi => ?_⟩, fun j hj => ⟨?_, fun w hw => ?_⟩⟩
  · refine ((f0.up fun a j q => ?_).tr (f1.up fun a j q => ?_)).tr (f2.up fun a j q => ?_)
    all_goals (have q := of_decide_eq_false q; simp; omega)
  · have f : Fr (fun a j => decide (a = 208 ∧ j = 68 ∨ 255 ≤ a)) m (kq false 219 1 0 (100 * k + 48) (kq false 239 30 0 (100 * k + 18) (kq false 211 18 0 (100 * k) (kp false kC22 (300 * k) m0)))) := by
      refine ((f0.up fun a j q => ?_).tr (f1.up fun a j q => ?_)).tr (f2.up fun a j q => ?_)
      all_goals (have q := of_decide_eq_false q; simp; omega)
    refine ⟨f.sk hs, fun a j q z => (f.1 a j (decide_eq_false ?_)).trans (hm.2.1 a j q z), fun a j q z => (f.2.1 a j (decide_eq_false ?_)).trans (hm.2.2.1 a j q z), fun j z => (f.2.1 211 j (decide_eq_false (by omega))).trans (hm.2.2.2 j z)⟩
    · have a1 := kC_ok _ (kC_m z)
      have a2 : ¬ (a = 208 ∧ j = 68) := a1.2
      have a3 : a ≤ 254 := by
        unfold mpI at z
        by_cases y : a ≤ 254
        · exact y
        · rw [if_neg (by omega), if_neg (by omega), if_neg (by omega), if_neg (by omega), if_neg (by omega), if_neg (by omega), if_neg (by omega)] at z
          cases z
      omega
    · have := mpL_a z
      omega
  · rw [kq_I, kq_I, kq_I, kp_0a kC_ok ⟨(by decide : (208 : Nat) ≠ 256), fun q => absurd q.2 (by decide : ¬ (1 : Nat) = 68)⟩, f0.1 208 1 (by simp), t1]
  · rw [kq_I, kq_I, kq_I, kp_0a kC_ok ⟨(by decide : (209 : Nat) ≠ 256), fun q => absurd q.1 (by decide : ¬ (209 : Nat) = 208)⟩, f0.1 209 i (by simp), t2 i hi]
  · show _ = bb (if j = k then some v else V j).isSome
    rw [kq_I, kq_I, kq_I, kp_0a kC_ok ⟨(by decide : (255 : Nat) ≠ 256), fun q => absurd q.1 (by decide : ¬ (255 : Nat) = 208)⟩, hm0, gI_sI, if_neg (by omega), gI_sI]
    by_cases y : j = k
    · rw [if_pos ⟨rfl, y⟩, if_pos y]; rfl
    · rw [if_neg (fun q => y q.2), if_neg y]; exact (hV j hj).1
  · have hw : (if j = k then some v else V j) = some w := hw
    by_cases y : j = k
    · rw [if_pos y] at hw
      cases hw
      subst y
      refine ⟨fun i c q hc hq => ?_, fun x hx => ?_, fun x hx => ?_, ?_⟩
      · have a1 := kC_ok c (List.mem_of_getElem? hc)
        rw [kq_I, kq_I, kq_I, h1 i c hc, f0.1 c.1 c.2]
        · exact hm.2.1 _ _ _ hq
        · have b1 := mpI_a hq
          have b2 := a1.1
          have b3 := a1.2
          have b4 : c.1 ≠ 255 := fun y => by
            unfold mpI at hq
            rw [y] at hq
            simp at hq
          simp
          exact ⟨fun q => absurd q b4, fun q q2 => b3 ⟨q, q2⟩⟩
      · rw [g1 x hx, kp_L, f0.2.1 211 x (by simp)]
        exact hm.2.2.2 x hx
      · rw [g2 x hx, kp_L, f0.2.1 239 x (by simp)]
        exact mp_so hm hx
      · rw [g3, kp_L, f0.2.1 219 0 (by simp)]
        exact hm.2.2.1 219 0 (1, 0) rfl
    · rw [if_neg y] at hw
      refine ((hV j hj).2 w hw).fr (fun x hx => ?_) (fun x hx => ?_)
      · rw [kq_I, kq_I, kq_I, f1.1 256 (300 * j + x) (by simp; omega), f0.1 256 _ (by simp)]
      · rw [f2.2.1 257 (100 * j + x) (by simp; omega), kp_L, f0.2.1 257 _ (by simp)]
theorem Mo_mark_back {v : eV} {t : Nat} {tp : Nat → Nat} {V : Nat → Option eV} {m : eM} (h : MI v t tp V m) {k : Nat} (hk : k < 4) {w : eV} (hw : V k = some w) (hv : Va w) (hb : Vb w) (d : Nat) : ∃ m', Fr sMd m m' ∧ Mo_mark_29 (d + 2) 208 (nI k) (bb true) m = yI 1 m' ∧ MI w t tp V m' := by
  obtain ⟨hm, ⟨t1, t2⟩, hV⟩ := h
  have hs := hm.sk
  have hM := (hV k hk).2 w hw
  have g218 : ∀ j, j < 2 → kC22[31 + j]? = some (218, j) := by decide +kernel
  have g240 : ∀ j, j < 30 → kC22[99 + j]? = some (240, j) := by decide +kernel
  have e := Mo_mark_29_s (B := true) hk hs d (fun q => by cases q) (fun _ j hj => by
    rw [hM.1 (31 + j) (218, j) (7, j) (g218 j hj) (by simp [mpI, hj])]
    exact le1 (hv.ic hj)) (fun q => by cases q) (fun _ j hj => by
    rw [hM.1 (99 + j) (240, j) (11, j) (g240 j hj) (by simp [mpI, hj])]
    exact le1 (hb j hj))
  obtain ⟨m0, hm0⟩ : ∃ m0, m0 = sI (sI m 255 k 1) 208 68 (nI (300 * k)) := ⟨_, rfl⟩
  rw [← hm0] at e
  have f0 : Fr (fun a j => (a == 255 && j == k) || (a == 208 && j == 68)) m m0 := by
    rw [hm0]
    exact (Fr.rfl'.i (by simp)).i (by simp)
  obtain ⟨f1, h1⟩ := kp_1 kC22 (300 * k) m0 kC_ok kC_nd
  obtain ⟨f2, g1, g2, g3⟩ := kq1_f (k := k) (kp true kC22 (300 * k) m0)
  have hin : ∀ c ∈ kC22, 208 ≤ c.1 ∧ c.1 ≤ 254 ∧ ¬ (c.1 = 208 ∧ c.2 = 1) ∧ c.1 ≠ 209 ∧ c.1 ≠ 221 := by decide +kernel
  have f1' : Fr (fun a j => decide (208 ≤ a ∧ a ≤ 254 ∧ ¬ (a = 208 ∧ j = 1) ∧ a ≠ 209 ∧ a ≠ 221)) m0 (kp true kC22 (300 * k) m0) := f1.up fun a j q => by
    have q := of_decide_eq_false q
    rw [Bool.or_eq_false_iff, decide_eq_false_iff_not]
    refine ⟨fun y => q (hin _ y), ?_⟩
    simp
    omega
  refine ⟨_, ?_, e, ?_, ⟨?_, fun i hi => ?_⟩, fun j hj => ⟨?_, fun w' hw' => ?_⟩⟩
  · refine ((f0.up fun a j q => ?_).tr (f1'.up fun a j q => ?_)).tr (f2.up fun a j q => ?_)
    all_goals (have q := of_decide_eq_false q; simp; omega)
  · refine ⟨(f2.sk (f1.sk (f0.sk hs))), fun a j q z => ?_, fun a j q z => ?_, fun j z => ?_⟩
    · obtain ⟨i, hi⟩ := List.getElem?_of_mem (kC_m z)
      have e1 := h1 i (a, j) hi
      rw [kq_I, kq_I, kq_I, e1, f0.1 256 _ (by simp)]
      exact hM.1 i (a, j) q hi z
    · rcases mpL_a z with y | y
      · subst y
        unfold mpL at z
        have hj : j = 0 := by
          by_cases y : j = 0
          · exact y
          · rw [if_neg (by omega), if_neg (by omega)] at z; cases z
        subst hj
        cases z
        rw [g3, kp_L, f0.2.1 257 _ (by simp)]
        exact hM.2.2.2
      · subst y
        unfold mpL at z
        rw [if_neg (by omega)] at z
        by_cases y : j < 30
        · rw [if_pos ⟨rfl, y⟩] at z
          cases z
          rw [g2 j y, kp_L, f0.2.1 257 _ (by simp)]
          exact hM.2.2.1 j y
        · rw [if_neg (by omega)] at z; cases z
    · rw [g1 j z, kp_L, f0.2.1 257 _ (by simp)]
      exact hM.2.1 j z
  · rw [kq_I, kq_I, kq_I, f1'.1 208 1 (decide_eq_false (by omega)), f0.1 208 1 (by simp), t1]
  · rw [kq_I, kq_I, kq_I, f1'.1 209 i (decide_eq_false (by omega)), f0.1 209 i (by simp), t2 i hi]
  · rw [kq_I, kq_I, kq_I, f1'.1 255 j (decide_eq_false (by omega)), hm0, gI_sI, if_neg (by omega), gI_sI]
    by_cases y : j = k
    · rw [if_pos ⟨rfl, y⟩, y, hw]; rfl
    · rw [if_neg (fun q => y q.2)]; exact (hV j hj).1
  · refine ((hV j hj).2 w' hw').fr (fun x hx => ?_) (fun x hx => ?_)
    · rw [kq_I, kq_I, kq_I, f1'.1 256 (300 * j + x) (decide_eq_false (by omega)), f0.1 256 _ (by simp)]
    · rw [f2.2.1 257 (100 * j + x) (by simp), kp_L, f0.2.1 257 _ (by simp)]
theorem MI.q {v : eV} {t : Nat} {tp : Nat → Nat} {V : Nat → Option eV} {m m' : eM} (h : MI v t tp V m) (f : Fr sQ m m') : MI v t tp V m' := h.mu f.qu (h.1.q f)
theorem Mo_mark_s {v : eV} {t : Nat} {tp : Nat → Nat} {V : Nat → Option eV} (hv : VI v t tp V) {m : eM} (h : MI v t tp V m) {D : Nat} (hD : 2 ≤ D) (x : Int32) (B : Bool) : ∃ m', Fr sMd m m' ∧ Mo_mark D 208 x (bb B) m = yI (sp_mark V x B) m' ∧ MI (mk_v v V x B) t tp (mk_V v V x B) m' := by
  obtain ⟨d, rfl⟩ : ∃ d, D = d + 2 := ⟨D - 2, by omega⟩
  have f0 : Fr sQ m (sI m 208 0 0) := Fr.rfl'.i rfl
  have h0 := h.q f0
  have hs := h0.1.sk
  rw [Mo_mark_e _ _ _ _ _ kd_208, mI_u, l_3, Mo_within_s _ _ (by decide), br0]
  by_cases z : inN x 4 = true
  · rw [if_pos z]
    obtain ⟨k, hk, rfl⟩ := inN_of (by decide) z
    cases B with
    | false =>
      obtain ⟨e1, e2, e3⟩ := mk_sv (v := v) (V := V) hk
      rw [e1, e2, e3, if_pos (show bb false = 0 from rfl)]
      obtain ⟨m', f1, a1, a2⟩ := Mo_mark_save hv.1.1 hv.1.2 h0 hk d
      exact ⟨m', f0.qu.md.tr f1, a1, a2⟩
    | true =>
      obtain ⟨e1, e2, e3⟩ := mk_gt (v := v) (V := V) hk
      rw [e1, e2, e3, if_neg (show ¬ bb true = 0 by decide), rf_208_65 hs, bR_s, ga_255 hk, n_cl (by omega), (h0.2.2 k hk).1]
      cases y : V k with
      | none =>
        rw [if_neg (by intro q; exact q rfl)]
        exact ⟨_, f0.qu.md, rfl, h0⟩
      | some w =>
        obtain ⟨hw1, hw2⟩ := hv.2.2 k w y
        rw [if_pos (show ¬ bb (some w).isSome = 0 from (by decide : ¬ bb true = 0))]
        obtain ⟨m', f1, a1, a2⟩ := Mo_mark_back h0 hk y hw1 hw2 d
        exact ⟨m', f0.qu.md.tr f1, a1, a2⟩
  · rw [if_neg z]
    obtain ⟨e1, e2, e3⟩ := mk_no (v := v) (V := V) (B := B) z
    rw [e1, e2, e3]
    exact ⟨_, f0.qu.md, rfl, h0⟩
/-! the class -/
theorem rf_44 {m : eM} (hs : Sk m) {k : Nat} (hk : k < 4) : gR m 44 k = some (68 + 35 * k) := by
  have : k = 0 ∨ k = 1 ∨ k = 2 ∨ k = 3 := by omega
  rcases this with y | y | y | y
  · rw [y]; exact rf_44_0 hs
  · rw [y]; exact rf_44_1 hs
  · rw [y]; exact rf_44_2 hs
  · rw [y]; exact rf_44_3 hs
theorem stN_k {k : Nat} (hk : k < 4) : stN (68 + 35 * k) := by
  unfold stN
  omega
theorem CsP.cp {v : eV} {s t p q : Nat} {m m' : eM} (h : CsP v t p m) (hs : stN s) (ht : stN t) (hst : s ≠ t) (hp : pOK p) (f : Fr (sSt s) (sR m s 0 (some q)) m') : CsP v t p m' := by
  have h1 : s + 34 < t ∨ t + 34 < s := by
    unfold stN at hs ht
    omega
  have h2 : p ≠ s ∧ (p + 11 < s ∨ s < p) ∧ (p + 11 < s + 13 ∨ s + 34 < p) := by
    unfold stN at hs
    unfold pOK at hp
    omega
  exact (h.sr (by omega) h2.1).fr f (fun _ => sSt_n (by omega)) (fun a j _ _ => sSt_n (by omega)) (fun a j _ _ => sSt_n (by omega))
theorem LC_mark_s {v : eV} {p t : Nat} {tp : Nat → Nat} {V : Nat → Option eV} {m : eM} (h : CI v p t tp V m) {D : Nat} (hD : 5 ≤ D) (x : Int32) (B : Bool) : ∃ m' p', CF m m' ∧ LC_mark D 3 x (bb B) m = yI (sp_mark V x B) m' ∧ CI (mk_v v V x B) p' t tp (mk_V v V x B) m' ∧ (gX m' = gX m ∧ gH m' = gH m ∧ gS m' = gS m ∧ gN m' = gN m) := by
  obtain ⟨d, rfl⟩ : ∃ d, D = d + 5 := ⟨D - 5, by omega⟩
  have hs := h.1.1.sk
  have f9 : stN 9 := Or.inl rfl
  rw [LC_mark_e _ _ _ _ _ kd_3, rf_3_3 hs, bR_s, gl_44, al_44, toI, rf_3_4 hs, bR_s, gl_45, al_45, toI]
  by_cases z : inN x 4 = true
  · obtain ⟨k, hk, rfl⟩ := inN_of (by decide) z
    have hne : (68 + 35 * k) ≠ 9 := by omega
    rw [if_neg (nI_pos (by omega)), if_neg (by rw [n_le (by omega) (by omega)]; omega), if_neg (by rw [n_le (by omega) (by omega)]; omega), bR_s, ga_44 hk, n_cl (by omega), rf_44 hs hk, bR_s, rf_3_2 hs]
    have nos : ∀ a, a < 9 ∨ a = 44 ∨ a = 45 → ∀ s, stN s → ∀ j, sSt s a j = false := fun a ha s hs j => sSt_n (by unfold stN at hs; omega)
    have nom : ∀ a, a = 0 ∨ 208 ≤ a → ∀ s, stN s → ∀ j, sSt s a j = false := fun a ha s hs j => sSt_n (by unfold stN at hs; omega)
    cases B with
    | false =>
      obtain ⟨e1, e2, e3⟩ := mk_sv (v := v) (V := V) hk
      rw [e1, e2, e3, if_neg (by intro q; exact q rfl), bR_s, ga_44 hk, rf_44 hs hk, bR_s, bR_s, gd_y (kd_of (StS_of (stN_k hk) hs).1.1)]
      obtain ⟨m1, f1, a1, a2⟩ := St_copy_s (stN_k hk) f9 hne (show 4 ≤ d + 4 by omega) hs h.1.1.1 h.1.1.2.2.2
      have hs1 : Sk m1 := f1.sk (hs.sr (stN_k hk) _)
      have f2 : Fr (fun a _ => a == 45) m1 (sI m1 45 k ((1 : Int32) &&& 1)) := Fr.rfl'.i rfl
      have n45 : ∀ a, a ≠ 45 → (a == 45) = false := fun a q => by simp [q]
      rw [a1, bV_y, rf_3_4 hs1, bR_s, gw_45 hk, mI_u]
      refine ⟨_, p, fun a j ha => ⟨(f2.1 a j (n45 a (by omega))).trans (f1.1 a j (nom a (by omega) _ (stN_k hk) j)), (f2.2.1 a j (n45 a (by omega))).trans (f1.2.1 a j (nom a (by omega) _ (stN_k hk) j))⟩, rfl, ⟨⟨⟨?_, ?_, f2.sk hs1, h.1.1.2.2.2⟩, ?_⟩, ⟨?_, fun i hi => ?_⟩, fun j hj => ⟨?_, fun w hw => ?_⟩⟩, ?_⟩
      · have := h.1.1.1.cp (stN_k hk) f9 hne h.1.1.2.2.2 f1
        exact this.fr f2 (fun _ => rfl) (fun a _ _ _ => n45 a (by omega)) (fun a _ q1 q2 => n45 a (by have := h.1.1.2.2.2; unfold pOK at this; omega))
      · have hS : Ss (sR m (68 + 35 * k) 0 (some p)) := h.1.1.ss
        exact (hS.fr f1 (fun j => nos 1 (by omega) _ (stN_k hk) j) (fun j => nos 2 (by omega) _ (stN_k hk) j)).fr f2 (fun _ => rfl) (fun _ => rfl)
      · have : gX (sI m1 45 k ((1 : Int32) &&& 1)) = gX m := f1.x
        rw [this]; exact h.1.2
      · exact (f2.1 _ _ rfl).trans ((f1.1 _ _ (nos 4 (by omega) _ (stN_k hk) _)).trans h.2.1.1)
      · exact (f2.1 _ _ rfl).trans ((f1.1 _ _ (nos 5 (by omega) _ (stN_k hk) _)).trans (h.2.1.2 i hi))
      · show _ = bb (if j = k then some v else V j).isSome
        rw [gI_sI]
        by_cases y : j = k
        · rw [if_pos ⟨rfl, y⟩, if_pos y]; rfl
        · rw [if_neg (fun q => y q.2), if_neg y]
          exact (f1.1 _ _ (nos 45 (by omega) _ (stN_k hk) _)).trans (h.2.2 j hj).1
      · have hx : gX (sI m1 45 k ((1 : Int32) &&& 1)) = gX m := f1.x
        have hw : (if j = k then some v else V j) = some w := hw
        by_cases y : j = k
        · rw [if_pos y] at hw
          cases hw
          rw [y, hx]
          refine ⟨p, a2.fr f2 (fun _ => n45 _ (by omega)) (fun a _ _ _ => n45 a (by omega)) (fun a _ q1 q2 => n45 a (by have := h.1.1.2.2.2; unfold pOK at this; omega)), h.1.1.2.2.2, h.1.2⟩
        · rw [if_neg y] at hw
          obtain ⟨q, q1, q2, q3⟩ := (h.2.2 j hj).2 w hw
          rw [hx]
          refine ⟨q, (q1.cp (stN_k hk) (stN_k hj) (by omega) q2 f1).fr f2 (fun _ => n45 _ (by omega)) (fun a _ _ _ => n45 a (by omega)) (fun a _ q1 q2' => n45 a (by unfold pOK at q2; omega)), q2, q3⟩
      · exact ⟨f1.x, congrArg (fun x => x.2.2.1) f1.2.2, congrArg (fun x => x.2.2.2.1) f1.2.2, congrArg (fun x => x.2.2.2.2) f1.2.2⟩
    | true =>
      obtain ⟨e1, e2, e3⟩ := mk_gt (v := v) (V := V) hk
      rw [e1, e2, e3, if_pos (show ¬ bb true = 0 by decide), bR_s, ga_45 hk, (h.2.2 k hk).1]
      cases y : V k with
      | none =>
        rw [if_pos (by rfl), bR_s, ga_45 hk]
        exact ⟨m, p, fun a j _ => ⟨rfl, rfl⟩, (by rw [(h.2.2 k hk).1, y]; exact yB_bb false m), h, rfl, rfl, rfl, rfl⟩
      | some w =>
        rw [if_neg (show ¬ bb (some w).isSome = 0 from (by decide : ¬ bb true = 0))]
        obtain ⟨q, q1, q2, q3⟩ := (h.2.2 k hk).2 w y
        obtain ⟨m1, f1, a1, a2⟩ := St_copy_s f9 (stN_k hk) hne.symm (show 4 ≤ d + 4 by omega) hs q1 q2
        have hs1 : Sk m1 := f1.sk (hs.sr f9 _)
        have e45 : gI m1 45 k = bb true := by
          rw [f1.1 45 k (nos 45 (by omega) _ f9 k)]
          show gI m 45 k = _
          rw [(h.2.2 k hk).1, y]; rfl
        rw [bR_s, bR_s, ga_44 hk, rf_44 hs hk, bR_s, gd9, a1, bV_y, rf_3_4 hs1, bR_s, ga_45 hk, e45]
        refine ⟨m1, q, fun a j ha => ⟨f1.1 a j (nom a (by omega) _ f9 j), f1.2.1 a j (nom a (by omega) _ f9 j)⟩, yB_bb true m1, ⟨⟨⟨a2, ?_, hs1, q2⟩, ?_⟩, ⟨?_, fun i hi => ?_⟩, fun j hj => ⟨?_, fun w' hw => ?_⟩⟩, f1.x, congrArg (fun x => x.2.2.1) f1.2.2, congrArg (fun x => x.2.2.2.1) f1.2.2, congrArg (fun x => x.2.2.2.2) f1.2.2⟩
        · have hS : Ss (sR m 9 0 (some q)) := h.1.1.ss
          exact hS.fr f1 (fun j => nos 1 (by omega) _ f9 j) (fun j => nos 2 (by omega) _ f9 j)
        · have : gX m1 = gX m := f1.x
          rw [this]; exact q3
        · exact (f1.1 _ _ (nos 4 (by omega) _ f9 _)).trans h.2.1.1
        · exact (f1.1 _ _ (nos 5 (by omega) _ f9 _)).trans (h.2.1.2 i hi)
        · exact (f1.1 _ _ (nos 45 (by omega) _ f9 _)).trans (h.2.2 j hj).1
        · have hx : gX m1 = gX m := f1.x
          obtain ⟨q', r1, r2, r3⟩ := (h.2.2 j hj).2 w' hw
          rw [hx]
          exact ⟨q', r1.cp f9 (stN_k hj) (by omega) r2 f1, r2, r3⟩
  · obtain ⟨e1, e2, e3⟩ := mk_no (v := v) (V := V) (B := B) z
    rw [e1, e2, e3]
    refine ⟨m, p, fun a j _ => ⟨rfl, rfl⟩, ?_, h, rfl, rfl, rfl, rfl⟩
    have z := Bool.eq_false_iff.mpr z
    by_cases y : x < 0
    · rw [if_pos y]
    · rw [if_neg y, if_pos ((inN_no z).resolve_left y)]
