/-! ===== the law: what holds before each call ===== -/
def Nm (v : eV) : Prop := ∀ j, j < nF v → nam v j < 27 ^ 8
theorem Nm.of {v v' : eV} (h : Nm v) (e1 : nam v' = nam v) (e2 : nF v' = nF v) : Nm v' := fun j hj => by rw [e1]; exact h j (by rw [← e2]; exact hj)
theorem kp_truth (v : eV) (w : Int32) : (∀ j, isq (nx_truth v w) j = isq v j) ∧ nam (nx_truth v w) = nam v ∧ nF (nx_truth v w) = nF v := by
  unfold nx_truth
  split
  · exact ⟨fun _ => rfl, rfl, rfl⟩
  · exact ⟨fun _ => rfl, rfl, rfl⟩
theorem kp_look (v : eV) (c mn f t : Int32) : (∀ j, isq (nx_look v c mn f t) j = isq v j) ∧ nam (nx_look v c mn f t) = nam v ∧ nF (nx_look v c mn f t) = nF v := by
  unfold nx_look
  split
  · exact ⟨fun _ => rfl, rfl, rfl⟩
  · exact ⟨fun _ => rfl, rfl, rfl⟩
theorem kp_watch (v : eV) (c mn : Int32) : (∀ j, isq (nx_watch v c mn) j = isq v j) ∧ nam (nx_watch v c mn) = nam v ∧ nF (nx_watch v c mn) = nF v := by
  unfold nx_watch
  split
  · exact ⟨fun _ => rfl, rfl, rfl⟩
  · exact ⟨fun _ => rfl, rfl, rfl⟩
theorem kp_lyN {v : eV} {s : eTp} {k x p mn n : Nat} (hk : k = 4 ∨ k = 5) : nF (lyN v k x p mn n (lyV s v)) = nF v := by
  rcases hk with rfl | rfl <;> cases lyV s v <;> rfl
theorem kp_say (s : eTp) (v : eV) (x y : Int32) : nF (nx_say s v x y) = nF v := by
  unfold nx_say
  split
  · exact kp_lyN (Or.inl rfl)
  · rfl
theorem kp_offer (s : eTp) (v : eV) (x y : Int32) : nF (nx_offer s v x y) = nF v := by
  unfold nx_offer
  split
  · exact kp_lyN (Or.inr rfl)
  · rfl
theorem Nm.mk {v : eV} {V : Nat → Option eV} (h : Nm v) (hV : ∀ k w, V k = some w → Nm w) (x : Int32) (B : Bool) : Nm (mk_v v V x B) ∧ ∀ k w, mk_V v V x B k = some w → Nm w := by
  refine ⟨?_, fun k w => ?_⟩
  · unfold mk_v
    split
    · cases y : V x.toNatClampNeg with
      | none => exact h
      | some w => exact hV _ w y
    · exact h
  · unfold mk_V
    split
    · intro q
      have q : (if k = x.toNatClampNeg then some v else V k) = some w := q
      by_cases z : k = x.toNatClampNeg
      · rw [if_pos z] at q; cases q; exact h
      · rw [if_neg z] at q; exact hV k w q
    · exact hV k w
theorem VI.of {v v' : eV} {t : Nat} {tp : Nat → Nat} {V : Nat → Option eV} (h : VI v t tp V) (h1 : Va v') (h2 : ∀ j, isq v' j = isq v j) : VI v' t tp V := ⟨⟨h1, fun j hj => by rw [h2]; exact h.1.2 j hj⟩, h.2⟩
theorem VI.z {v v' : eV} {t : Nat} {tp tp' : Nat → Nat} {V : Nat → Option eV} (h : VI v t tp V) (h1 : Va v') (h2 : Vb v') : VI v' 0 tp' V := ⟨⟨h1, h2⟩, ⟨Nat.zero_le _, fun i hi => absurd hi (Nat.not_lt_zero i)⟩, h.2.2⟩
def SC (L : Nat) (xs : Nat → Int32) (m : eM) : Prop := (∀ j, j < L → gI m 0 j = xs j) ∧ gN m = L
def RM (n : Nat) (m : eM) : Prop := (∃ k, k ≤ n ∧ gX m = 259 + 12 * k) ∧ gH m ≤ 256 + 12 * n ∧ gS m ≤ 1000000 + 70 * n
def SD (L : Nat) (xs : Nat → Int32) (n : Nat) (m : eM) : Prop := (gI m 221 0 = 0 ∧ ZF m) ∧ SC L xs m ∧ RM n m
theorem SD.up {L : Nat} {xs : Nat → Int32} {n : Nat} {m : eM} (h : SD L xs n m) : SD L xs (n + 1) m := by
  obtain ⟨h1, h2, ⟨k, k1, k2⟩, c1, c2⟩ := h
  exact ⟨h1, h2, ⟨k, by omega, k2⟩, by omega, by omega⟩
theorem SD.fr {L : Nat} {xs : Nat → Int32} {n : Nat} {m m' : eM} {S : Nat → Nat → Bool} (h : SD L xs n m) (f : Fr S m m') (h1 : S 221 0 = false) (h2 : ∀ a j, 259 ≤ a → S a j = false) (h3 : ∀ j, S 0 j = false) : SD L xs n m' := by
  obtain ⟨⟨a1, a2⟩, ⟨b1, b2⟩, ⟨k, k1, k2⟩, c1, c2⟩ := h
  have ex : gX m' = gX m := f.x
  have eh : gH m' = gH m := congrArg (fun x => x.2.2.1) f.2.2
  have es : gS m' = gS m := congrArg (fun x => x.2.2.2.1) f.2.2
  have en : gN m' = gN m := congrArg (fun x => x.2.2.2.2) f.2.2
  exact ⟨⟨(f.1 221 0 h1).trans a1, a2.fr f (fun a j q => h2 a j (by omega))⟩, ⟨fun j hj => (f.1 0 j (h3 j)).trans (b1 j hj), en.trans b2⟩, ⟨k, k1, ex.trans k2⟩, by rw [eh]; exact c1, by rw [es]; exact c2⟩
def LJ (v : eV) (t : Nat) (tp : Nat → Nat) (V : Nat → Option eV) (p L : Nat) (xs : Nat → Int32) (n : Nat) (m : eM) : Prop := (VI v t tp V ∧ Nm v ∧ ∀ k w, V k = some w → Nm w) ∧ (MI v t tp V m ∧ CI v p t tp V m) ∧ SD L xs n m
def LI (L : Nat) (xs : Nat → Int32) (n : Nat) (m : eM) : Prop := ∃ v t tp V p, LJ v t tp V p L xs n m
theorem Fr.cfS {S : Nat → Nat → Bool} {m m' : eM} (f : Fr S m m') (hS : ∀ a j, a = 0 ∨ 208 ≤ a → S a j = false) : CF m m' := fun a j q => ⟨f.1 a j (hS a j q), f.2.1 a j (hS a j q)⟩
theorem sQ_md {a j : Nat} (h : a < 208 ∨ a = 221 ∨ 257 < a) : sQ a j = false := by
  unfold sQ
  rw [decide_eq_false (by omega)]; rfl
theorem LJ.K {v : eV} {t : Nat} {tp : Nat → Nat} {V : Nat → Option eV} {p L : Nat} {xs : Nat → Int32} {n : Nat} {m m' : eM} (h : LJ v t tp V p L xs n m) (f : Fr sK m m') : LJ v t tp V p L xs n m' :=
  ⟨h.1, ⟨h.2.1.1.cf (f.cfS fun a j q => decide_eq_false (by omega)) (f.sk h.2.1.1.1.1), h.2.1.2.cu f.ku (h.2.1.2.1.1.q f)⟩, h.2.2.fr f rfl (fun a j q => decide_eq_false (by omega)) (fun j => rfl)⟩
theorem LJ.Q {v : eV} {t : Nat} {tp : Nat → Nat} {V : Nat → Option eV} {p L : Nat} {xs : Nat → Int32} {n : Nat} {m m' : eM} (h : LJ v t tp V p L xs n m) (f : Fr sQ m m') : LJ v t tp V p L xs n m' :=
  ⟨h.1, ⟨h.2.1.1.q f, h.2.1.2.md (f.up fun a j q => sQ_md (by have := of_decide_eq_false q; omega))⟩, h.2.2.fr f (sQ_md (by omega)) (fun a j q => sQ_md (by omega)) (fun j => sQ_md (by omega))⟩
/-! a call of both sides -/
def OK2 (L : Nat) (xs : Nat → Int32) (n : Nat) (F G : eM → oX) (m : eM) : Prop := ∃ A m1, F m = yI A m1 ∧ SC L xs m1 ∧ ∃ m2, G m1 = yI A m2 ∧ LI L xs (n + 1) m2
def OK2L (L : Nat) (xs : Nat → Int32) (n : Nat) (F G : eM → oX) (m : eM) : Prop := ∃ A m1, F m = yL A m1 ∧ SC L xs m1 ∧ ∃ m2, G m1 = yL A m2 ∧ LI L xs (n + 1) m2
theorem ok_q {v : eV} {t : Nat} {tp : Nat → Nat} {V : Nat → Option eV} {p L : Nat} {xs : Nat → Int32} {n : Nat} {m : eM} (h : LJ v t tp V p L xs n m) {A : Int32} {F G : eM → oX} (hF : ∃ m', Fr sK m m' ∧ F m = yI A m') (hG : ∀ m1, MI v t tp V m1 → ∃ m', Fr sQ m1 m' ∧ G m1 = yI A m') : OK2 L xs n F G m := by
  obtain ⟨m1, f1, e1⟩ := hF
  have h1 := h.K f1
  obtain ⟨m2, f2, e2⟩ := hG m1 h1.2.1.1
  have h2 := h1.Q f2
  exact ⟨A, m1, e1, h1.2.2.2.1, m2, e2, v, t, tp, V, p, h2.1, h2.2.1, h2.2.2.up⟩
theorem ok_l {v : eV} {t : Nat} {tp : Nat → Nat} {V : Nat → Option eV} {p L : Nat} {xs : Nat → Int32} {n : Nat} {m : eM} (h : LJ v t tp V p L xs n m) {A : Int64} {F G : eM → oX} (hF : ∃ m', Fr sK m m' ∧ F m = yL A m') (hG : ∀ m1, MI v t tp V m1 → ∃ m', Fr sQ m1 m' ∧ G m1 = yL A m') : OK2L L xs n F G m := by
  obtain ⟨m1, f1, e1⟩ := hF
  have h1 := h.K f1
  obtain ⟨m2, f2, e2⟩ := hG m1 h1.2.1.1
  have h2 := h1.Q f2
  exact ⟨A, m1, e1, h1.2.2.2.1, m2, e2, v, t, tp, V, p, h2.1, h2.2.1, h2.2.2.up⟩
/-! what the script holds -/

theorem sc_ga {L : Nat} {xs : Nat → Int32} {m : eM} (s : SC L xs m) {i k : Nat} (hk : k ≤ 6) (hi : i + 7 ≤ L) (hL : L ≤ 3584) (o : oX) : ga m 0 20 (nI i + nI k) o = o := by
  rw [nI_add]
  refine if_pos ⟨kd_0.1, ?_⟩
  unfold eIn
  rw [n_cl (by omega), show aln m 0 = L from s.2]
  exact decide_eq_true (fun q => q.elim (nI_pos (by omega)) (by omega))
theorem sc_gI {L : Nat} {xs : Nat → Int32} {m : eM} (s : SC L xs m) {i k : Nat} (hk : k ≤ 6) (hi : i + 7 ≤ L) (hL : L ≤ 3584) : gI m 0 (nI i + nI k).toNatClampNeg = xs (i + k) := by
  rw [nI_add, n_cl (by omega)]
  exact s.1 _ (by omega)
theorem gq1 {L : Nat} {xs : Nat → Int32} {m : eM} (s : SC L xs m) {i : Nat} (hi : i + 7 ≤ L) (hL : L ≤ 3584) : (∀ o, ga m 0 20 (nI i + (1 : Int32)) o = o) ∧ gI m 0 (nI i + (1 : Int32)).toNatClampNeg = xs (i + 1) := ⟨sc_ga s (k := 1) (by decide) hi hL, sc_gI s (k := 1) (by decide) hi hL⟩
theorem gq2 {L : Nat} {xs : Nat → Int32} {m : eM} (s : SC L xs m) {i : Nat} (hi : i + 7 ≤ L) (hL : L ≤ 3584) : (∀ o, ga m 0 20 (nI i + (2 : Int32)) o = o) ∧ gI m 0 (nI i + (2 : Int32)).toNatClampNeg = xs (i + 2) := ⟨sc_ga s (k := 2) (by decide) hi hL, sc_gI s (k := 2) (by decide) hi hL⟩
theorem gq3 {L : Nat} {xs : Nat → Int32} {m : eM} (s : SC L xs m) {i : Nat} (hi : i + 7 ≤ L) (hL : L ≤ 3584) : (∀ o, ga m 0 20 (nI i + (3 : Int32)) o = o) ∧ gI m 0 (nI i + (3 : Int32)).toNatClampNeg = xs (i + 3) := ⟨sc_ga s (k := 3) (by decide) hi hL, sc_gI s (k := 3) (by decide) hi hL⟩
theorem gq4 {L : Nat} {xs : Nat → Int32} {m : eM} (s : SC L xs m) {i : Nat} (hi : i + 7 ≤ L) (hL : L ≤ 3584) : (∀ o, ga m 0 20 (nI i + (4 : Int32)) o = o) ∧ gI m 0 (nI i + (4 : Int32)).toNatClampNeg = xs (i + 4) := ⟨sc_ga s (k := 4) (by decide) hi hL, sc_gI s (k := 4) (by decide) hi hL⟩
theorem gq5 {L : Nat} {xs : Nat → Int32} {m : eM} (s : SC L xs m) {i : Nat} (hi : i + 7 ≤ L) (hL : L ≤ 3584) : (∀ o, ga m 0 20 (nI i + (5 : Int32)) o = o) ∧ gI m 0 (nI i + (5 : Int32)).toNatClampNeg = xs (i + 5) := ⟨sc_ga s (k := 5) (by decide) hi hL, sc_gI s (k := 5) (by decide) hi hL⟩
theorem gq6 {L : Nat} {xs : Nat → Int32} {m : eM} (s : SC L xs m) {i : Nat} (hi : i + 7 ≤ L) (hL : L ≤ 3584) : (∀ o, ga m 0 20 (nI i + (6 : Int32)) o = o) ∧ gI m 0 (nI i + (6 : Int32)).toNatClampNeg = xs (i + 6) := ⟨sc_ga s (k := 6) (by decide) hi hL, sc_gI s (k := 6) (by decide) hi hL⟩
/-! the law's trees, by the number of words that a call takes -/
theorem lw0 {L : Nat} {xs : Nat → Int32} {n : Nat} {m : eM} {F G K : eM → oX} (h : OK2 L xs n F G m) : ∃ m2, LI L xs (n + 1) m2 ∧ (bI (F m) fun v2 m1 => bI (G m1) fun v4 m3 => if v2 = v4 then K m3 else yI (0 : Int32) m3) = K m2 := by
  obtain ⟨A, m1, e1, s1, m2, e2, h2⟩ := h
  exact ⟨m2, h2, by rw [e1, bI_y, e2, bI_y, if_pos rfl]⟩
theorem lw1 {L : Nat} {xs : Nat → Int32} {n i : Nat} {m : eM} {F G : Int32 → eM → oX} {K : eM → oX} (s : SC L xs m) (hi : i + 7 ≤ L) (hL : L ≤ 3584) (h : ∀ x, OK2 L xs n (F x) (G x) m) : ∃ m2, LI L xs (n + 1) m2 ∧ (ga m 0 20 (nI i + (1 : Int32)) (bI (F (gI m 0 (nI i + (1 : Int32)).toNatClampNeg) m) fun v2 m1 => ga m1 0 20 (nI i + (1 : Int32)) (bI (G (gI m1 0 (nI i + (1 : Int32)).toNatClampNeg) m1) fun v4 m3 => if v2 = v4 then K m3 else yI (0 : Int32) m3))) = K m2 := by
  obtain ⟨A, m1, e1, s1, m2, e2, h2⟩ := h (xs (i + 1))
  refine ⟨m2, h2, ?_⟩
  rw [(gq1 s hi hL).1, (gq1 s hi hL).2, e1, bI_y, (gq1 s1 hi hL).1, (gq1 s1 hi hL).2, e2, bI_y, if_pos rfl]
theorem lw2 {L : Nat} {xs : Nat → Int32} {n i : Nat} {m : eM} {F G : Int32 → Int32 → eM → oX} {K : eM → oX} (s : SC L xs m) (hi : i + 7 ≤ L) (hL : L ≤ 3584) (h : ∀ x y, OK2 L xs n (F x y) (G x y) m) : ∃ m2, LI L xs (n + 1) m2 ∧ (ga m 0 20 (nI i + (1 : Int32)) (ga m 0 20 (nI i + (2 : Int32)) (bI (F (gI m 0 (nI i + (1 : Int32)).toNatClampNeg) (gI m 0 (nI i + (2 : Int32)).toNatClampNeg) m) fun v2 m1 => ga m1 0 20 (nI i + (1 : Int32)) (ga m1 0 20 (nI i + (2 : Int32)) (bI (G (gI m1 0 (nI i + (1 : Int32)).toNatClampNeg) (gI m1 0 (nI i + (2 : Int32)).toNatClampNeg) m1) fun v4 m3 => if v2 = v4 then K m3 else yI (0 : Int32) m3))))) = K m2 := by
  obtain ⟨A, m1, e1, s1, m2, e2, h2⟩ := h (xs (i + 1)) (xs (i + 2))
  refine ⟨m2, h2, ?_⟩
  rw [(gq1 s hi hL).1, (gq2 s hi hL).1, (gq1 s hi hL).2, (gq2 s hi hL).2, e1, bI_y, (gq1 s1 hi hL).1, (gq2 s1 hi hL).1, (gq1 s1 hi hL).2, (gq2 s1 hi hL).2, e2, bI_y, if_pos rfl]
theorem lw2L {L : Nat} {xs : Nat → Int32} {n i : Nat} {m : eM} {F G : Int32 → Int32 → eM → oX} {K : eM → oX} (s : SC L xs m) (hi : i + 7 ≤ L) (hL : L ≤ 3584) (h : ∀ x y, OK2L L xs n (F x y) (G x y) m) : ∃ m2, LI L xs (n + 1) m2 ∧ (ga m 0 20 (nI i + (1 : Int32)) (ga m 0 20 (nI i + (2 : Int32)) (bL (F (gI m 0 (nI i + (1 : Int32)).toNatClampNeg) (gI m 0 (nI i + (2 : Int32)).toNatClampNeg) m) fun v2 m1 => ga m1 0 20 (nI i + (1 : Int32)) (ga m1 0 20 (nI i + (2 : Int32)) (bL (G (gI m1 0 (nI i + (1 : Int32)).toNatClampNeg) (gI m1 0 (nI i + (2 : Int32)).toNatClampNeg) m1) fun v4 m3 => if (lg_cmp v2 v4) = 0 then K m3 else yI (0 : Int32) m3))))) = K m2 := by
  obtain ⟨A, m1, e1, s1, m2, e2, h2⟩ := h (xs (i + 1)) (xs (i + 2))
  refine ⟨m2, h2, ?_⟩
  rw [(gq1 s hi hL).1, (gq2 s hi hL).1, (gq1 s hi hL).2, (gq2 s hi hL).2, e1, bL_y, (gq1 s1 hi hL).1, (gq2 s1 hi hL).1, (gq1 s1 hi hL).2, (gq2 s1 hi hL).2, e2, bL_y, if_pos ((cmp0 _ _).mpr rfl)]
theorem lw3 {L : Nat} {xs : Nat → Int32} {n i : Nat} {m : eM} {F G : Int32 → Int32 → Int32 → eM → oX} {K : eM → oX} (s : SC L xs m) (hi : i + 7 ≤ L) (hL : L ≤ 3584) (h : ∀ x y z, OK2 L xs n (F x y z) (G x y z) m) : ∃ m2, LI L xs (n + 1) m2 ∧ (ga m 0 20 (nI i + (1 : Int32)) (ga m 0 20 (nI i + (2 : Int32)) (ga m 0 20 (nI i + (3 : Int32)) (bI (F (gI m 0 (nI i + (1 : Int32)).toNatClampNeg) (gI m 0 (nI i + (2 : Int32)).toNatClampNeg) (gI m 0 (nI i + (3 : Int32)).toNatClampNeg) m) fun v2 m1 => ga m1 0 20 (nI i + (1 : Int32)) (ga m1 0 20 (nI i + (2 : Int32)) (ga m1 0 20 (nI i + (3 : Int32)) (bI (G (gI m1 0 (nI i + (1 : Int32)).toNatClampNeg) (gI m1 0 (nI i + (2 : Int32)).toNatClampNeg) (gI m1 0 (nI i + (3 : Int32)).toNatClampNeg) m1) fun v4 m3 => if v2 = v4 then K m3 else yI (0 : Int32) m3))))))) = K m2 := by
  obtain ⟨A, m1, e1, s1, m2, e2, h2⟩ := h (xs (i + 1)) (xs (i + 2)) (xs (i + 3))
  refine ⟨m2, h2, ?_⟩
  rw [(gq1 s hi hL).1, (gq2 s hi hL).1, (gq3 s hi hL).1, (gq1 s hi hL).2, (gq2 s hi hL).2, (gq3 s hi hL).2, e1, bI_y, (gq1 s1 hi hL).1, (gq2 s1 hi hL).1, (gq3 s1 hi hL).1, (gq1 s1 hi hL).2, (gq2 s1 hi hL).2, (gq3 s1 hi hL).2, e2, bI_y, if_pos rfl]
theorem lw4 {L : Nat} {xs : Nat → Int32} {n i : Nat} {m : eM} {F G : Int32 → Int32 → Int32 → Int32 → eM → oX} {K : eM → oX} (s : SC L xs m) (hi : i + 7 ≤ L) (hL : L ≤ 3584) (h : ∀ x y z u, OK2 L xs n (F x y z u) (G x y z u) m) : ∃ m2, LI L xs (n + 1) m2 ∧ (ga m 0 20 (nI i + (1 : Int32)) (ga m 0 20 (nI i + (2 : Int32)) (ga m 0 20 (nI i + (3 : Int32)) (ga m 0 20 (nI i + (4 : Int32)) (bI (F (gI m 0 (nI i + (1 : Int32)).toNatClampNeg) (gI m 0 (nI i + (2 : Int32)).toNatClampNeg) (gI m 0 (nI i + (3 : Int32)).toNatClampNeg) (gI m 0 (nI i + (4 : Int32)).toNatClampNeg) m) fun v2 m1 => ga m1 0 20 (nI i + (1 : Int32)) (ga m1 0 20 (nI i + (2 : Int32)) (ga m1 0 20 (nI i + (3 : Int32)) (ga m1 0 20 (nI i + (4 : Int32)) (bI (G (gI m1 0 (nI i + (1 : Int32)).toNatClampNeg) (gI m1 0 (nI i + (2 : Int32)).toNatClampNeg) (gI m1 0 (nI i + (3 : Int32)).toNatClampNeg) (gI m1 0 (nI i + (4 : Int32)).toNatClampNeg) m1) fun v4 m3 => if v2 = v4 then K m3 else yI (0 : Int32) m3))))))))) = K m2 := by
  obtain ⟨A, m1, e1, s1, m2, e2, h2⟩ := h (xs (i + 1)) (xs (i + 2)) (xs (i + 3)) (xs (i + 4))
  refine ⟨m2, h2, ?_⟩
  rw [(gq1 s hi hL).1, (gq2 s hi hL).1, (gq3 s hi hL).1, (gq4 s hi hL).1, (gq1 s hi hL).2, (gq2 s hi hL).2, (gq3 s hi hL).2, (gq4 s hi hL).2, e1, bI_y, (gq1 s1 hi hL).1, (gq2 s1 hi hL).1, (gq3 s1 hi hL).1, (gq4 s1 hi hL).1, (gq1 s1 hi hL).2, (gq2 s1 hi hL).2, (gq3 s1 hi hL).2, (gq4 s1 hi hL).2, e2, bI_y, if_pos rfl]
