/-! ===== the law: one call ===== -/
def Nx (d L : Nat) (xs : Nat → Int32) (n i : Nat) (o : oX) : Prop := ∃ m2 w5 w6, LI L xs (n + 1) m2 ∧ o = La_law_1818 (d + 1) 0 3 208 258 (nI i) w5 w6 m2
theorem MI.cf3 {v : eV} {t : Nat} {tp : Nat → Nat} {V : Nat → Option eV} {m m' : eM} (h : MI v t tp V m) (f : ∀ a j, 208 ≤ a → a < 258 → gI m' a j = gI m a j ∧ gL m' a j = gL m a j) (hs : Sk m') : MI v t tp V m' := by
  obtain ⟨h1, ⟨t1, t2⟩, hV⟩ := h
  refine ⟨⟨hs, fun a j q z => ?_, fun a j q z => ?_, fun j hj => ((f 211 j (by decide) (by decide)).2).trans (h1.2.2.2 j hj)⟩, ⟨((f 208 1 (by decide) (by decide)).1).trans t1, fun i hi => ((f 209 i (by decide) (by decide)).1).trans (t2 i hi)⟩, fun k hk => ⟨((f 255 k (by decide) (by decide)).1).trans (hV k hk).1, fun w hw => ((hV k hk).2 w hw).fr (fun j _ => (f 256 _ (by decide) (by decide)).1) (fun j _ => (f 257 _ (by decide) (by decide)).2)⟩⟩
  · have := mpI_a z
    exact ((f a j (by omega) (by omega)).1).trans (h1.2.1 a j q z)
  · have := mpL_a z
    exact ((f a j (by omega) (by omega)).2).trans (h1.2.2.1 a j q z)
theorem CI.frS {v : eV} {p t : Nat} {tp : Nat → Nat} {V : Nat → Option eV} {m m' : eM} {S : Nat → Nat → Bool} (h : CI v p t tp V m) (f : Fr S m m') (hS : ∀ a j, a < 208 ∨ 259 ≤ a → S a j = false) : CI v p t tp V m' := by
  obtain ⟨⟨⟨c1, c2, c3, c4⟩, hx⟩, ⟨t1, t2⟩, hV⟩ := h
  have pO : ∀ {q}, pOK q → ∀ a j, q ≤ a → a ≤ q + 11 → S a j = false := fun hq a j h1 h2 => hS a j (by unfold pOK at hq; omega)
  refine ⟨⟨⟨c1.fr f (fun _ => hS _ _ (by omega)) (fun a j _ _ => hS _ _ (by omega)) (pO c4), c2.fr f (fun _ => hS _ _ (by omega)) (fun _ => hS _ _ (by omega)), f.sk c3, c4⟩, by rw [f.x]; exact hx⟩, ⟨(f.1 _ _ (hS _ _ (by omega))).trans t1, fun i hi => (f.1 _ _ (hS _ _ (by omega))).trans (t2 i hi)⟩, fun k hk => ⟨(f.1 _ _ (hS _ _ (by omega))).trans (hV k hk).1, fun w hw => ?_⟩⟩
  obtain ⟨q, q1, q2, q3⟩ := (hV k hk).2 w hw
  exact ⟨q, q1.fr f (fun _ => hS _ _ (by omega)) (fun a j _ _ => hS _ _ (by omega)) (pO q2), q2, by rw [f.x]; exact q3⟩
theorem LJ.W {v : eV} {t : Nat} {tp : Nat → Nat} {V : Nat → Option eV} {p L : Nat} {xs : Nat → Int32} {n : Nat} {m : eM} (h : LJ v t tp V p L xs n m) (x : Int64) : LJ v t tp V p L xs n (sL m 258 0 x) := by
  have f : Fr (fun a _ => a == 258) m (sL m 258 0 x) := Fr.rfl'.l rfl
  have nS : ∀ a, a ≠ 258 → (a == 258) = false := fun a q => by simp [q]
  exact ⟨h.1, ⟨h.2.1.1.cf3 (fun a j q1 q2 => ⟨f.1 a j (nS a (by omega)), f.2.1 a j (nS a (by omega))⟩) (f.sk h.2.1.1.1.1), h.2.1.2.frS f fun a j q => nS a (by omega)⟩, h.2.2.fr f rfl (fun a j q => nS a (by omega)) (fun j => rfl)⟩
theorem LJ.X {v : eV} {t : Nat} {tp : Nat → Nat} {V : Nat → Option eV} {p L : Nat} {xs : Nat → Int32} {n : Nat} {m : eM} (h : LJ v t tp V p L xs n m) : LJ v t tp V p L xs (n + 1) (sX m 6) := by
  obtain ⟨h1, ⟨h2, h3⟩, h4, h5, ⟨k, k1, k2⟩, c1, c2⟩ := h
  refine ⟨h1, ⟨h2, h3⟩, h4, h5, ⟨k, by omega, k2⟩, ?_, ?_⟩
  · show gH m + 1 ≤ _
    omega
  · show gS m + 6 ≤ _
    omega
theorem lw6 {L : Nat} {xs : Nat → Int32} {n i : Nat} {m : eM} {F G : Int32 → Int32 → Int32 → Int32 → Int32 → Int32 → eM → oX} {K : eM → oX} (s : SC L xs m) (hi : i + 7 ≤ L) (hL : L ≤ 3584) (h : ∀ x y z u w r, OK2 L xs n (F x y z u w r) (G x y z u w r) m) : ∃ m2, LI L xs (n + 1) m2 ∧ (ga m 0 20 (nI i + (1 : Int32)) (ga m 0 20 (nI i + (2 : Int32)) (ga m 0 20 (nI i + (3 : Int32)) (ga m 0 20 (nI i + (4 : Int32)) (ga m 0 20 (nI i + (5 : Int32)) (ga m 0 20 (nI i + (6 : Int32)) (bI (F (gI m 0 (nI i + (1 : Int32)).toNatClampNeg) (gI m 0 (nI i + (2 : Int32)).toNatClampNeg) (gI m 0 (nI i + (3 : Int32)).toNatClampNeg) (gI m 0 (nI i + (4 : Int32)).toNatClampNeg) (gI m 0 (nI i + (5 : Int32)).toNatClampNeg) (gI m 0 (nI i + (6 : Int32)).toNatClampNeg) m) fun v2 m1 => ga m1 0 20 (nI i + (1 : Int32)) (ga m1 0 20 (nI i + (2 : Int32)) (ga m1 0 20 (nI i + (3 : Int32)) (ga m1 0 20 (nI i + (4 : Int32)) (ga m1 0 20 (nI i + (5 : Int32)) (ga m1 0 20 (nI i + (6 : Int32)) (bI (G (gI m1 0 (nI i + (1 : Int32)).toNatClampNeg) (gI m1 0 (nI i + (2 : Int32)).toNatClampNeg) (gI m1 0 (nI i + (3 : Int32)).toNatClampNeg) (gI m1 0 (nI i + (4 : Int32)).toNatClampNeg) (gI m1 0 (nI i + (5 : Int32)).toNatClampNeg) (gI m1 0 (nI i + (6 : Int32)).toNatClampNeg) m1) fun v4 m3 => if v2 = v4 then K m3 else yI (0 : Int32) m3))))))))))))) = K m2 := by
  obtain ⟨A, m1, e1, s1, m2, e2, h2⟩ := h (xs (i + 1)) (xs (i + 2)) (xs (i + 3)) (xs (i + 4)) (xs (i + 5)) (xs (i + 6))
  refine ⟨m2, h2, ?_⟩
  rw [(gq1 s hi hL).1, (gq2 s hi hL).1, (gq3 s hi hL).1, (gq4 s hi hL).1, (gq5 s hi hL).1, (gq6 s hi hL).1, (gq1 s hi hL).2, (gq2 s hi hL).2, (gq3 s hi hL).2, (gq4 s hi hL).2, (gq5 s hi hL).2, (gq6 s hi hL).2, e1, bI_y, (gq1 s1 hi hL).1, (gq2 s1 hi hL).1, (gq3 s1 hi hL).1, (gq4 s1 hi hL).1, (gq5 s1 hi hL).1, (gq6 s1 hi hL).1, (gq1 s1 hi hL).2, (gq2 s1 hi hL).2, (gq3 s1 hi hL).2, (gq4 s1 hi hL).2, (gq5 s1 hi hL).2, (gq6 s1 hi hL).2, e2, bI_y, if_pos rfl]
section Call
variable {d L : Nat} {xs : Nat → Int32} {n i : Nat} {m : eM} {v : eV} {t : Nat} {tp : Nat → Nat} {V : Nat → Option eV} {p : Nat} {w5 w6 : Value}
theorem Nx.k {o : oX} (h : ∃ m2, LI L xs (n + 1) m2 ∧ o = La_law_1818 (d + 1) 0 3 208 258 (nI i) w5 w6 m2) : Nx d L xs n i o := by
  obtain ⟨m2, h1, h2⟩ := h
  exact ⟨m2, w5, w6, h1, h2⟩
theorem op_561 (hd : 100 ≤ d) (h : LJ v t tp V p L xs n m) (hi : i + 7 ≤ L) (hL : L ≤ 3584) : Nx d L xs n i (La_law_561 (d + 1) 0 3 208 258 (nI i) w5 w6 m) := by
  rw [La_law_561_e _ _ _ _ _ _ _ _ _ kd_3 kd_208]
  exact Nx.k (w5 := w5) (w6 := w6) (lw1 (F := fun x m => LC_world d 3 x m) (G := fun x m => Mo_world d 208 x m) (K := fun m => La_law_1818 (d + 1) 0 3 208 258 (nI i) w5 w6 m) h.2.2.2.1 hi hL fun x => ok_q h (LC_world_s h.1.1.1.1 h.2.1.2.1.1 (by omega) x) fun m1 q => Mo_world_s h.1.1.1.1 (by omega) q.1 x)
theorem op_586 (hd : 100 ≤ d) (h : LJ v t tp V p L xs n m) (hi : i + 7 ≤ L) (hL : L ≤ 3584) : Nx d L xs n i (La_law_586 (d + 1) 0 3 208 258 (nI i) w5 w6 m) := by
  rw [La_law_586_e _ _ _ _ _ _ _ _ _ kd_3 kd_208]
  exact Nx.k (w5 := w5) (w6 := w6) (lw2 (F := fun x y m => LC_lie d 3 x y m) (G := fun x y m => Mo_lie d 208 x y m) (K := fun m => La_law_1818 (d + 1) 0 3 208 258 (nI i) w5 w6 m) h.2.2.2.1 hi hL fun x y => ok_q h (LC_lie_s h.1.1.1.1 h.2.1.2.1.1 (by omega) x y) fun m1 q => Mo_lie_s h.1.1.1.1 (by omega) q.1 x y)
theorem op_623 (hd : 100 ≤ d) (h : LJ v t tp V p L xs n m) (hi : i + 7 ≤ L) (hL : L ≤ 3584) : Nx d L xs n i (La_law_623 (d + 1) 0 3 208 258 (nI i) w5 w6 m) := by
  rw [La_law_623_e _ _ _ _ _ _ _ _ _ kd_3 kd_208]
  exact Nx.k (w5 := w5) (w6 := w6) (lw3 (F := fun x y z m => LC_points d 3 x y z m) (G := fun x y z m => Mo_points d 208 x y z m) (K := fun m => La_law_1818 (d + 1) 0 3 208 258 (nI i) w5 w6 m) h.2.2.2.1 hi hL fun x y z => ok_q h (LC_points_s h.1.1.1.1 h.2.1.2.1.1 (by omega) x y z) fun m1 q => Mo_points_s h.1.1.1.1 (by omega) q.1 x y z)
theorem op_672 (hd : 100 ≤ d) (h : LJ v t tp V p L xs n m) (hi : i + 7 ≤ L) (hL : L ≤ 3584) : Nx d L xs n i (La_law_672 (d + 1) 0 3 208 258 (nI i) w5 w6 m) := by
  rw [La_law_672_e _ _ _ _ _ _ _ _ _ kd_3 kd_208]
  exact Nx.k (w5 := w5) (w6 := w6) (lw1 (F := fun x m => LC_worlds d 3 x m) (G := fun x m => Mo_worlds d 208 x m) (K := fun m => La_law_1818 (d + 1) 0 3 208 258 (nI i) w5 w6 m) h.2.2.2.1 hi hL fun x => ok_q h (LC_worlds_s h.1.1.1.1 h.2.1.2.1.1 (by omega) x) fun m1 q => Mo_worlds_s h.1.1.1.1 (by omega) q.1 x)
theorem op_697 (hd : 100 ≤ d) (h : LJ v t tp V p L xs n m) (hi : i + 7 ≤ L) (hL : L ≤ 3584) : Nx d L xs n i (La_law_697 (d + 1) 0 3 208 258 (nI i) w5 w6 m) := by
  rw [La_law_697_e _ _ _ _ _ _ _ _ _ kd_3 kd_208]
  exact Nx.k (w5 := w5) (w6 := w6) (lw1 (F := fun x m => LC_sureFact d 3 x m) (G := fun x m => Mo_sureFact d 208 x m) (K := fun m => La_law_1818 (d + 1) 0 3 208 258 (nI i) w5 w6 m) h.2.2.2.1 hi hL fun x => ok_q h (LC_sureFact_s h.1.1.1.1 h.2.1.2.1.1 (by omega) x) fun m1 q => Mo_sureFact_s h.1.1.1.1 (by omega) q.1 x)
theorem op_722 (hd : 100 ≤ d) (h : LJ v t tp V p L xs n m) (hi : i + 7 ≤ L) (hL : L ≤ 3584) : Nx d L xs n i (La_law_722 (d + 1) 0 3 208 258 (nI i) w5 w6 m) := by
  rw [La_law_722_e _ _ _ _ _ _ _ _ _ kd_3 kd_208]
  exact Nx.k (w5 := w5) (w6 := w6) (lw1 (F := fun x m => LC_sure d 3 x m) (G := fun x m => Mo_sure d 208 x m) (K := fun m => La_law_1818 (d + 1) 0 3 208 258 (nI i) w5 w6 m) h.2.2.2.1 hi hL fun x => ok_q h (LC_sure_s h.1.1.1.1 h.2.1.2.1.1 (by omega) x) fun m1 q => Mo_sure_s h.1.1.1.1 (by omega) q.1 x)
theorem op_747 (hd : 100 ≤ d) (h : LJ v t tp V p L xs n m) (hi : i + 7 ≤ L) (hL : L ≤ 3584) : Nx d L xs n i (La_law_747 (d + 1) 0 3 208 258 (nI i) w5 w6 m) := by
  rw [La_law_747_e _ _ _ _ _ _ _ _ _ kd_3 kd_208]
  exact Nx.k (w5 := w5) (w6 := w6) (lw2L (F := fun x y m => LC_odds d 3 x y m) (G := fun x y m => Mo_odds d 208 x y m) (K := fun m => La_law_1818 (d + 1) 0 3 208 258 (nI i) w5 w6 m) h.2.2.2.1 hi hL fun x y => ok_l h (LC_odds_s h.1.1.1.1 h.2.1.2.1.1 (by omega) x y) fun m1 q => Mo_odds_s h.1.1.1.1 (by omega) q.1 x y)
theorem op_785 (hd : 100 ≤ d) (h : LJ v t tp V p L xs n m) (hi : i + 7 ≤ L) (hL : L ≤ 3584) : Nx d L xs n i (La_law_785 (d + 1) 0 3 208 258 (nI i) w5 w6 m) := by
  rw [La_law_785_e _ _ _ _ _ _ _ _ _ kd_3 kd_208]
  exact Nx.k (w5 := w5) (w6 := w6) (lw2 (F := fun x y m => LC_proof d 3 x y m) (G := fun x y m => Mo_proof d 208 x y m) (K := fun m => La_law_1818 (d + 1) 0 3 208 258 (nI i) w5 w6 m) h.2.2.2.1 hi hL fun x y => ok_q h (LC_proof_s h.1.1.1.1 h.2.1.2.1.1 (by omega) x y) fun m1 q => Mo_proof_s h.1.1.1.1 (by omega) q.1 x y)
theorem op_822 (hd : 100 ≤ d) (h : LJ v t tp V p L xs n m) (hi : i + 7 ≤ L) (hL : L ≤ 3584) : Nx d L xs n i (La_law_822 (d + 1) 0 3 208 258 (nI i) w5 w6 m) := by
  rw [La_law_822_e _ _ _ _ _ _ _ _ _ kd_3 kd_208]
  exact Nx.k (w5 := w5) (w6 := w6) (lw1 (F := fun x m => LC_clash d 3 x m) (G := fun x m => Mo_clash d 208 x m) (K := fun m => La_law_1818 (d + 1) 0 3 208 258 (nI i) w5 w6 m) h.2.2.2.1 hi hL fun x => ok_q h (LC_clash_s h.1.1.1.1 h.2.1.2.1.1 (by omega) x) fun m1 q => Mo_clash_s h.1.1.1.1 (by omega) q.1 x)
theorem op_847 (hd : 100 ≤ d) (h : LJ v t tp V p L xs n m) (hi : i + 7 ≤ L) (hL : L ≤ 3584) : Nx d L xs n i (La_law_847 (d + 1) 0 3 208 258 (nI i) w5 w6 m) := by
  rw [La_law_847_e _ _ _ _ _ _ _ _ _ kd_3 kd_208]
  exact Nx.k (w5 := w5) (w6 := w6) (lw4 (F := fun x y z u m => LC_next d 3 x y z u m) (G := fun x y z u m => Mo_next d 208 x y z u m) (K := fun m => La_law_1818 (d + 1) 0 3 208 258 (nI i) w5 w6 m) h.2.2.2.1 hi hL fun x y z u => ok_q h (LC_next_s h.1.1.1.1 h.2.1.2.1.1 (by omega) x y z u) fun m1 q => Mo_next_s h.1.1.1.1 (by omega) q.1 x y z u)
theorem op_908 (hd : 100 ≤ d) (h : LJ v t tp V p L xs n m) (hi : i + 7 ≤ L) (hL : L ≤ 3584) : Nx d L xs n i (La_law_908 (d + 1) 0 3 208 258 (nI i) w5 w6 m) := by
  rw [La_law_908_e _ _ _ _ _ _ _ _ _ kd_3 kd_208]
  exact Nx.k (w5 := w5) (w6 := w6) (lw4 (F := fun x y z u m => LC_fog d 3 x y z u m) (G := fun x y z u m => Mo_fog d 208 x y z u m) (K := fun m => La_law_1818 (d + 1) 0 3 208 258 (nI i) w5 w6 m) h.2.2.2.1 hi hL fun x y z u => ok_q h (LC_fog_s h.1.1.1.1 h.2.1.2.1.1 (by omega) x y z u) fun m1 q => Mo_fog_s h.1.1.1.1 (by omega) q.1 x y z u)
theorem op_1058 (hd : 100 ≤ d) (h : LJ v t tp V p L xs n m) (hi : i + 7 ≤ L) (hL : L ≤ 3584) : Nx d L xs n i (La_law_1058 (d + 1) 0 3 208 258 (nI i) w5 w6 m) := by
  rw [La_law_1058_e _ _ _ _ _ _ _ _ _ kd_3 kd_208]
  exact Nx.k (w5 := w5) (w6 := w6) (lw0 (F := fun m => LC_judged d 3 m) (G := fun m => Mo_judged d 208 m) (K := fun m => La_law_1818 (d + 1) 0 3 208 258 (nI i) w5 w6 m) (ok_q h (LC_judged_s h.1.1.1.1 h.2.1.2.1.1 (by omega) ) fun m1 q => Mo_judged_s h.1.1.1.1 (by omega) q.1 ))
theorem op_1071 (hd : 100 ≤ d) (h : LJ v t tp V p L xs n m) (hi : i + 7 ≤ L) (hL : L ≤ 3584) : Nx d L xs n i (La_law_1071 (d + 1) 0 3 208 258 (nI i) w5 w6 m) := by
  rw [La_law_1071_e _ _ _ _ _ _ _ _ _ kd_3 kd_208]
  exact Nx.k (w5 := w5) (w6 := w6) (lw2 (F := fun x y m => LC_turned d 3 x y m) (G := fun x y m => Mo_turned d 208 x y m) (K := fun m => La_law_1818 (d + 1) 0 3 208 258 (nI i) w5 w6 m) h.2.2.2.1 hi hL fun x y => ok_q h (LC_turned_s h.1.1.1.1 h.2.1.2.1.1 (by omega) x y) fun m1 q => Mo_turned_s h.1.1.1.1 (by omega) q.1 x y)
theorem op_1108 (hd : 100 ≤ d) (h : LJ v t tp V p L xs n m) (hi : i + 7 ≤ L) (hL : L ≤ 3584) : Nx d L xs n i (La_law_1108 (d + 1) 0 3 208 258 (nI i) w5 w6 m) := by
  rw [La_law_1108_e _ _ _ _ _ _ _ _ _ kd_3 kd_208]
  exact Nx.k (w5 := w5) (w6 := w6) (lw4 (F := fun x y z u m => LC_pointed d 3 x y z u m) (G := fun x y z u m => Mo_pointed d 208 x y z u m) (K := fun m => La_law_1818 (d + 1) 0 3 208 258 (nI i) w5 w6 m) h.2.2.2.1 hi hL fun x y z u => ok_q h (LC_pointed_s h.1.1.1.1 h.2.1.2.1.1 (by omega) x y z u) fun m1 q => Mo_pointed_s h.1.1.1.1 (by omega) q.1 x y z u)
theorem op_1169 (hd : 100 ≤ d) (h : LJ v t tp V p L xs n m) (hi : i + 7 ≤ L) (hL : L ≤ 3584) : Nx d L xs n i (La_law_1169 (d + 1) 0 3 208 258 (nI i) w5 w6 m) := by
  rw [La_law_1169_e _ _ _ _ _ _ _ _ _ kd_3 kd_208]
  exact Nx.k (w5 := w5) (w6 := w6) (lw2 (F := fun x y m => LC_round d 3 x y m) (G := fun x y m => Mo_round d 208 x y m) (K := fun m => La_law_1818 (d + 1) 0 3 208 258 (nI i) w5 w6 m) h.2.2.2.1 hi hL fun x y => ok_q h (LC_round_s h.1.1.1.1 h.2.1.2.1.1 (by omega) x y) fun m1 q => Mo_round_s h.1.1.1.1 (by omega) q.1 x y)
theorem op_1206 (hd : 100 ≤ d) (h : LJ v t tp V p L xs n m) (hi : i + 7 ≤ L) (hL : L ≤ 3584) : Nx d L xs n i (La_law_1206 (d + 1) 0 3 208 258 (nI i) w5 w6 m) := by
  rw [La_law_1206_e _ _ _ _ _ _ _ _ _ kd_3 kd_208]
  exact Nx.k (w5 := w5) (w6 := w6) (lw2 (F := fun x y m => LC_hidden d 3 x y m) (G := fun x y m => Mo_hidden d 208 x y m) (K := fun m => La_law_1818 (d + 1) 0 3 208 258 (nI i) w5 w6 m) h.2.2.2.1 hi hL fun x y => ok_q h (LC_hidden_s h.1.1.1.1 h.2.1.2.1.1 (by omega) x y) fun m1 q => Mo_hidden_s h.1.1.1.1 (by omega) q.1 x y)
theorem op_1243 (hd : 100 ≤ d) (h : LJ v t tp V p L xs n m) (hi : i + 7 ≤ L) (hL : L ≤ 3584) : Nx d L xs n i (La_law_1243 (d + 1) 0 3 208 258 (nI i) w5 w6 m) := by
  rw [La_law_1243_e _ _ _ _ _ _ _ _ _ kd_3 kd_208]
  exact Nx.k (w5 := w5) (w6 := w6) (lw2 (F := fun x y m => LC_hide d 3 x y m) (G := fun x y m => Mo_hide d 208 x y m) (K := fun m => La_law_1818 (d + 1) 0 3 208 258 (nI i) w5 w6 m) h.2.2.2.1 hi hL fun x y => ok_q h (LC_hide_s h.1.1.1.1 h.2.1.2.1.1 (by omega) x y) fun m1 q => Mo_hide_s h.1.1.1.1 (by omega) q.1 x y)
theorem op_1383 (hd : 100 ≤ d) (h : LJ v t tp V p L xs n m) (hi : i + 7 ≤ L) (hL : L ≤ 3584) : Nx d L xs n i (La_law_1383 (d + 1) 0 3 208 258 (nI i) w5 w6 m) := by
  rw [La_law_1383_e _ _ _ _ _ _ _ _ _ kd_3 kd_208]
  exact Nx.k (w5 := w5) (w6 := w6) (lw2 (F := fun x y m => LC_sector d 3 x y m) (G := fun x y m => Mo_sector d 208 x y m) (K := fun m => La_law_1818 (d + 1) 0 3 208 258 (nI i) w5 w6 m) h.2.2.2.1 hi hL fun x y => ok_q h (LC_sector_s h.1.1.1.1 h.2.1.2.1.1 (by omega) x y) fun m1 q => Mo_sector_s h.1.1.1.1 (by omega) q.1 x y)
theorem op_1420 (hd : 100 ≤ d) (h : LJ v t tp V p L xs n m) (hi : i + 7 ≤ L) (hL : L ≤ 3584) : Nx d L xs n i (La_law_1420 (d + 1) 0 3 208 258 (nI i) w5 w6 m) := by
  rw [La_law_1420_e _ _ _ _ _ _ _ _ _ kd_3 kd_208]
  exact Nx.k (w5 := w5) (w6 := w6) (lw2 (F := fun x y m => LC_blind d 3 x y m) (G := fun x y m => Mo_blind d 208 x y m) (K := fun m => La_law_1818 (d + 1) 0 3 208 258 (nI i) w5 w6 m) h.2.2.2.1 hi hL fun x y => ok_q h (LC_blind_s h.1.1.1.1 h.2.1.2.1.1 (by omega) x y) fun m1 q => Mo_blind_s h.1.1.1.1 (by omega) q.1 x y)
theorem op_1457 (hd : 100 ≤ d) (h : LJ v t tp V p L xs n m) (hi : i + 7 ≤ L) (hL : L ≤ 3584) : Nx d L xs n i (La_law_1457 (d + 1) 0 3 208 258 (nI i) w5 w6 m) := by
  rw [La_law_1457_e _ _ _ _ _ _ _ _ _ kd_3 kd_208]
  exact Nx.k (w5 := w5) (w6 := w6) (lw1 (F := fun x m => LC_told d 3 x m) (G := fun x m => Mo_told d 208 x m) (K := fun m => La_law_1818 (d + 1) 0 3 208 258 (nI i) w5 w6 m) h.2.2.2.1 hi hL fun x => ok_q h (LC_told_s h.1.1.1.1 h.2.1.2.1.1 (by omega) x) fun m1 q => Mo_told_s h.1.1.1.1 (by omega) q.1 x)
theorem op_1482 (hd : 100 ≤ d) (h : LJ v t tp V p L xs n m) (hi : i + 7 ≤ L) (hL : L ≤ 3584) : Nx d L xs n i (La_law_1482 (d + 1) 0 3 208 258 (nI i) w5 w6 m) := by
  rw [La_law_1482_e _ _ _ _ _ _ _ _ _ kd_3 kd_208]
  exact Nx.k (w5 := w5) (w6 := w6) (lw2 (F := fun x y m => LC_fewest d 3 x y m) (G := fun x y m => Mo_fewest d 208 x y m) (K := fun m => La_law_1818 (d + 1) 0 3 208 258 (nI i) w5 w6 m) h.2.2.2.1 hi hL fun x y => ok_q h (LC_fewest_s h.1.1.1.1 h.2.1.2.1.1 (by omega) x y) fun m1 q => Mo_fewest_s h.1.1.1.1 (by omega) q.1 x y)
theorem op_1519 (hd : 100 ≤ d) (h : LJ v t tp V p L xs n m) (hi : i + 7 ≤ L) (hL : L ≤ 3584) : Nx d L xs n i (La_law_1519 (d + 1) 0 3 208 258 (nI i) w5 w6 m) := by
  rw [La_law_1519_e _ _ _ _ _ _ _ _ _ kd_3 kd_208]
  exact Nx.k (w5 := w5) (w6 := w6) (lw2 (F := fun x y m => LC_person d 3 x y m) (G := fun x y m => Mo_person d 208 x y m) (K := fun m => La_law_1818 (d + 1) 0 3 208 258 (nI i) w5 w6 m) h.2.2.2.1 hi hL fun x y => ok_q h (LC_person_s h.1.1.1.1 h.2.1.2.1.1 (by omega) x y) fun m1 q => Mo_person_s h.1.1.1.1 (by omega) q.1 x y)
theorem op_1556 (hd : 100 ≤ d) (h : LJ v t tp V p L xs n m) (hi : i + 7 ≤ L) (hL : L ≤ 3584) : Nx d L xs n i (La_law_1556 (d + 1) 0 3 208 258 (nI i) w5 w6 m) := by
  rw [La_law_1556_e _ _ _ _ _ _ _ _ _ kd_3 kd_208]
  exact Nx.k (w5 := w5) (w6 := w6) (lw3 (F := fun x y z m => LC_lookout d 3 x y z m) (G := fun x y z m => Mo_lookout d 208 x y z m) (K := fun m => La_law_1818 (d + 1) 0 3 208 258 (nI i) w5 w6 m) h.2.2.2.1 hi hL fun x y z => ok_q h (LC_lookout_s h.1.1.1.1 h.2.1.2.1.1 (by omega) x y z) fun m1 q => Mo_lookout_s h.1.1.1.1 (by omega) q.1 x y z)
theorem op_1605 (hd : 100 ≤ d) (h : LJ v t tp V p L xs n m) (hi : i + 7 ≤ L) (hL : L ≤ 3584) : Nx d L xs n i (La_law_1605 (d + 1) 0 3 208 258 (nI i) w5 w6 m) := by
  rw [La_law_1605_e _ _ _ _ _ _ _ _ _ kd_3 kd_208]
  exact Nx.k (w5 := w5) (w6 := w6) (lw2 (F := fun x y m => LC_move d 3 x y m) (G := fun x y m => Mo_move d 208 x y m) (K := fun m => La_law_1818 (d + 1) 0 3 208 258 (nI i) w5 w6 m) h.2.2.2.1 hi hL fun x y => ok_q h (LC_move_s h.1.1.1.1 h.2.1.2.1.1 (by omega) x y) fun m1 q => Mo_move_s h.1.1.1.1 (by omega) q.1 x y)
theorem op_1642 (hd : 100 ≤ d) (h : LJ v t tp V p L xs n m) (hi : i + 7 ≤ L) (hL : L ≤ 3584) : Nx d L xs n i (La_law_1642 (d + 1) 0 3 208 258 (nI i) w5 w6 m) := by
  rw [La_law_1642_e _ _ _ _ _ _ _ _ _ kd_3 kd_208]
  exact Nx.k (w5 := w5) (w6 := w6) (lw4 (F := fun x y z u m => LC_longest d 3 x y z u m) (G := fun x y z u m => Mo_longest d 208 x y z u m) (K := fun m => La_law_1818 (d + 1) 0 3 208 258 (nI i) w5 w6 m) h.2.2.2.1 hi hL fun x y z u => ok_q h (LC_longest_s h.1.1.1.1 h.2.1.2.1.1 (by omega) x y z u) fun m1 q => Mo_longest_s h.1.1.1.1 (by omega) q.1 x y z u)
theorem op_1703 (hd : 100 ≤ d) (h : LJ v t tp V p L xs n m) (hi : i + 7 ≤ L) (hL : L ≤ 3584) : Nx d L xs n i (La_law_1703 (d + 1) 0 3 208 258 (nI i) w5 w6 m) := by
  rw [La_law_1703_e _ _ _ _ _ _ _ _ _ kd_3 kd_208]
  exact Nx.k (w5 := w5) (w6 := w6) (lw2 (F := fun x y m => LC_differ d 3 x y m) (G := fun x y m => Mo_differ d 208 x y m) (K := fun m => La_law_1818 (d + 1) 0 3 208 258 (nI i) w5 w6 m) h.2.2.2.1 hi hL fun x y => ok_q h (LC_differ_s h.1.1.1.1 h.2.1.2.1.1 (by omega) x y) fun m1 q => Mo_differ_s h.1.1.1.1 (by omega) q.1 x y)
theorem op_1793 (hd : 100 ≤ d) (h : LJ v t tp V p L xs n m) (hi : i + 7 ≤ L) (hL : L ≤ 3584) : Nx d L xs n i (La_law_1793 (d + 1) 0 3 208 258 (nI i) w5 w6 m) := by
  rw [La_law_1793_e _ _ _ _ _ _ _ _ _ kd_3 kd_208]
  exact Nx.k (w5 := w5) (w6 := w6) (lw1 (F := fun x m => LC_count d 3 x m) (G := fun x m => Mo_count d 208 x m) (K := fun m => La_law_1818 (d + 1) 0 3 208 258 (nI i) w5 w6 m) h.2.2.2.1 hi hL fun x => ok_q h (LC_count_s h.1.1.1.1 h.2.1.2.1.1 (by omega) h.2.1.2.2.1.1 x) fun m1 q => Mo_count_s h.1.1.1.1 (by omega) q.1 q.2.1.1 x)
theorem op_438 (hd : 100 ≤ d) (h : LJ v t tp V p L xs n m) (hi : i + 7 ≤ L) (hL : L ≤ 3584) : Nx d L xs n i (La_law_438 (d + 1) 0 3 208 258 (nI i) w5 w6 m) := by
  rw [La_law_438_e _ _ _ _ _ _ _ _ _ kd_3 kd_208]
  exact Nx.k (w5 := w5) (w6 := w6) (lw1 (F := fun x m => LC_truth d 3 x m) (G := fun x m => Mo_truth d 208 x m) (K := fun m => La_law_1818 (d + 1) 0 3 208 258 (nI i) w5 w6 m) h.2.2.2.1 hi hL fun x => ok_cu h (va_truth h.1.1.1.1 x) (kp_truth v x) (LC_truth_s h.1.1.1.1 h.2.1.2.1.1 (by omega) x) fun m1 q => Mo_truth_s h.1.1.1.1 q (by omega) x)
theorem op_463 (hd : 100 ≤ d) (h : LJ v t tp V p L xs n m) (hi : i + 7 ≤ L) (hL : L ≤ 3584) : Nx d L xs n i (La_law_463 (d + 1) 0 3 208 258 (nI i) w5 w6 m) := by
  rw [La_law_463_e _ _ _ _ _ _ _ _ _ kd_3 kd_208]
  exact Nx.k (w5 := w5) (w6 := w6) (lw4 (F := fun x y z u m => LC_look d 3 x y z u m) (G := fun x y z u m => Mo_look d 208 x y z u m) (K := fun m => La_law_1818 (d + 1) 0 3 208 258 (nI i) w5 w6 m) h.2.2.2.1 hi hL fun x y z u => ok_cu h (va_look h.1.1.1.1 x y z u) (kp_look v x y z u) (LC_look_s h.1.1.1.1 h.2.1.2.1.1 (by omega) x y z u) fun m1 q => Mo_look_s h.1.1.1.1 q (by omega) x y z u)
theorem op_524 (hd : 100 ≤ d) (h : LJ v t tp V p L xs n m) (hi : i + 7 ≤ L) (hL : L ≤ 3584) : Nx d L xs n i (La_law_524 (d + 1) 0 3 208 258 (nI i) w5 w6 m) := by
  rw [La_law_524_e _ _ _ _ _ _ _ _ _ kd_3 kd_208]
  exact Nx.k (w5 := w5) (w6 := w6) (lw2 (F := fun x y m => LC_watch d 3 x y m) (G := fun x y m => Mo_watch d 208 x y m) (K := fun m => La_law_1818 (d + 1) 0 3 208 258 (nI i) w5 w6 m) h.2.2.2.1 hi hL fun x y => ok_cu h (va_watch h.1.1.1.1 x y) (kp_watch v x y) (LC_watch_s h.1.1.1.1 h.2.1.2.1.1 (by omega) x y) fun m1 q => Mo_watch_s h.1.1.1.1 q (by omega) x y)
theorem op_364 (hd : 100 ≤ d) (h : LJ v t tp V p L xs n m) (hi : i + 7 ≤ L) (hL : L ≤ 3584) : Nx d L xs n i (La_law_364 (d + 1) 0 3 208 258 (nI i) w5 w6 m) := by
  rw [La_law_364_e _ _ _ _ _ _ _ _ _ kd_3 kd_208]
  exact Nx.k (w5 := w5) (w6 := w6) (lw2 (F := fun x y m => LC_say d 3 x y m) (G := fun x y m => Mo_say d 208 x y m) (K := fun m => La_law_1818 (d + 1) 0 3 208 258 (nI i) w5 w6 m) h.2.2.2.1 hi hL fun x y => ok_say h (by omega) x y)
theorem op_401 (hd : 100 ≤ d) (h : LJ v t tp V p L xs n m) (hi : i + 7 ≤ L) (hL : L ≤ 3584) : Nx d L xs n i (La_law_401 (d + 1) 0 3 208 258 (nI i) w5 w6 m) := by
  rw [La_law_401_e _ _ _ _ _ _ _ _ _ kd_3 kd_208]
  exact Nx.k (w5 := w5) (w6 := w6) (lw2 (F := fun x y m => LC_offer d 3 x y m) (G := fun x y m => Mo_offer d 208 x y m) (K := fun m => La_law_1818 (d + 1) 0 3 208 258 (nI i) w5 w6 m) h.2.2.2.1 hi hL fun x y => ok_offer h (by omega) x y)
theorem op_351 (hd : 100 ≤ d) (h : LJ v t tp V p L xs n m) (hi : i + 7 ≤ L) (hL : L ≤ 3584) : Nx d L xs n i (La_law_351 (d + 1) 0 3 208 258 (nI i) w5 w6 m) := by
  rw [La_law_351_e _ _ _ _ _ _ _ _ _ kd_3 kd_208]
  exact Nx.k (w5 := w5) (w6 := w6) (lw0 (F := fun m => LC_parish d 3 m) (G := fun m => Mo_parish d 208 m) (K := fun m => La_law_1818 (d + 1) 0 3 208 258 (nI i) w5 w6 m) (ok_parish h (by omega)))
theorem op_204 (hd : 100 ≤ d) (h : LJ v t tp V p L xs n m) (hi : i + 7 ≤ L) (hL : L ≤ 3584) : Nx d L xs n i (La_law_204 (d + 1) 0 3 208 258 (nI i) w5 w6 m) := by
  rw [La_law_204_e _ _ _ _ _ _ _ _ _ kd_3 kd_208]
  exact Nx.k (w5 := w5) (w6 := w6) (lw6 (F := fun x y z u w r m => LC_feed d 3 ((x.toInt64 <<< ((32 : Int32).toInt64 &&& 63)) ||| (y.toInt64 &&& (4294967295 : Int64))) ((z.toInt64 <<< ((32 : Int32).toInt64 &&& 63)) ||| (u.toInt64 &&& (4294967295 : Int64))) ((w.toInt64 <<< ((32 : Int32).toInt64 &&& 63)) ||| (r.toInt64 &&& (4294967295 : Int64))) m) (G := fun x y z u w r m => Mo_feed d 208 ((x.toInt64 <<< ((32 : Int32).toInt64 &&& 63)) ||| (y.toInt64 &&& (4294967295 : Int64))) ((z.toInt64 <<< ((32 : Int32).toInt64 &&& 63)) ||| (u.toInt64 &&& (4294967295 : Int64))) ((w.toInt64 <<< ((32 : Int32).toInt64 &&& 63)) ||| (r.toInt64 &&& (4294967295 : Int64))) m) (K := fun m => La_law_1818 (d + 1) 0 3 208 258 (nI i) w5 w6 m) h.2.2.2.1 hi hL fun x y z u w r => ok_feed h (by omega) _ _ _)
theorem op_969 (hd : 100 ≤ d) (h : LJ v t tp V p L xs n m) (hi : i + 7 ≤ L) (hL : L ≤ 3584) : Nx d L xs n i (La_law_969 (d + 1) 0 3 208 258 (nI i) w5 w6 m) := by
  rw [La_law_969_e _ _ _ _ _ _ _ _ _ kd_3 kd_208]
  have s := h.2.2.2.1
  rw [(gq1 s hi hL).1, (gq2 s hi hL).1, (gq3 s hi hL).1, (gq1 s hi hL).2, (gq2 s hi hL).2, (gq3 s hi hL).2]
  by_cases z : xs (i + 3) = 0
  · rw [if_pos z, La_law_996_e _ _ _ _ _ _ _ _ _ _ _ _ _ kd_3 kd_208 kd_3, (gq4 s hi hL).1, (gq5 s hi hL).1, (gq4 s hi hL).2, (gq5 s hi hL).2]
    obtain ⟨A, m1, e1, s1, m2, e2, h2⟩ := ok_q h (F := fun m => LC_learns d 3 (xs (i + 1)) (xs (i + 2)) 0 (xs (i + 4)) (xs (i + 5)) m) (G := fun m => Mo_learns d 208 (xs (i + 1)) (xs (i + 2)) 0 (xs (i + 4)) (xs (i + 5)) m) (LC_learns_s h.1.1.1.1 h.2.1.2.1.1 (by omega) _ _ _ _ _) fun m1 q => Mo_learns_s h.1.1.1.1 (by omega) q.1 _ _ _ _ _
    have e1 : LC_learns d 3 (xs (i + 1)) (xs (i + 2)) 0 (xs (i + 4)) (xs (i + 5)) m = yI A m1 := e1
    have e2 : Mo_learns d 208 (xs (i + 1)) (xs (i + 2)) 0 (xs (i + 4)) (xs (i + 5)) m1 = yI A m2 := e2
    rw [e1, bI_y, (gq1 s1 hi hL).1, (gq2 s1 hi hL).1, (gq3 s1 hi hL).1, (gq1 s1 hi hL).2, (gq2 s1 hi hL).2, (gq3 s1 hi hL).2, if_pos z, (gq4 s1 hi hL).1, (gq5 s1 hi hL).1, (gq4 s1 hi hL).2, (gq5 s1 hi hL).2, e2, bI_y, if_pos rfl]
    exact ⟨m2, w5, w6, h2, rfl⟩
  · rw [if_neg z, La_law_996_e _ _ _ _ _ _ _ _ _ _ _ _ _ kd_3 kd_208 kd_3, (gq4 s hi hL).1, (gq5 s hi hL).1, (gq4 s hi hL).2, (gq5 s hi hL).2]
    obtain ⟨A, m1, e1, s1, m2, e2, h2⟩ := ok_q h (F := fun m => LC_learns d 3 (xs (i + 1)) (xs (i + 2)) 1 (xs (i + 4)) (xs (i + 5)) m) (G := fun m => Mo_learns d 208 (xs (i + 1)) (xs (i + 2)) 1 (xs (i + 4)) (xs (i + 5)) m) (LC_learns_s h.1.1.1.1 h.2.1.2.1.1 (by omega) _ _ _ _ _) fun m1 q => Mo_learns_s h.1.1.1.1 (by omega) q.1 _ _ _ _ _
    have e1 : LC_learns d 3 (xs (i + 1)) (xs (i + 2)) 1 (xs (i + 4)) (xs (i + 5)) m = yI A m1 := e1
    have e2 : Mo_learns d 208 (xs (i + 1)) (xs (i + 2)) 1 (xs (i + 4)) (xs (i + 5)) m1 = yI A m2 := e2
    rw [e1, bI_y, (gq1 s1 hi hL).1, (gq2 s1 hi hL).1, (gq3 s1 hi hL).1, (gq1 s1 hi hL).2, (gq2 s1 hi hL).2, (gq3 s1 hi hL).2, if_neg z, (gq4 s1 hi hL).1, (gq5 s1 hi hL).1, (gq4 s1 hi hL).2, (gq5 s1 hi hL).2, e2, bI_y, if_pos rfl]
    exact ⟨m2, w5, w6, h2, rfl⟩
theorem op_1740 (hd : 100 ≤ d) (h : LJ v t tp V p L xs n m) (hi : i + 7 ≤ L) (hL : L ≤ 3584) : Nx d L xs n i (La_law_1740 (d + 1) 0 3 208 258 (nI i) w5 w6 m) := by
  rw [La_law_1740_e _ _ _ _ _ _ _ _ _ kd_3 kd_208]
  have s := h.2.2.2.1
  rw [(gq1 s hi hL).1, (gq2 s hi hL).1, (gq1 s hi hL).2, (gq2 s hi hL).2]
  by_cases z : xs (i + 2) = 0
  · rw [if_pos z, La_law_1761_e _ _ _ _ _ _ _ _ _ _ _ _ kd_3 kd_208 kd_3]
    obtain ⟨A, m1, e1, s1, m2, e2, h2⟩ := ok_mark h (show 5 ≤ d by omega) (xs (i + 1)) false
    have e1 : LC_mark d 3 (xs (i + 1)) 0 m = yI A m1 := e1
    have e2 : Mo_mark d 208 (xs (i + 1)) 0 m1 = yI A m2 := e2
    rw [e1, bI_y, (gq1 s1 hi hL).1, (gq2 s1 hi hL).1, (gq1 s1 hi hL).2, (gq2 s1 hi hL).2, if_pos z, e2, bI_y, if_pos rfl]
    exact ⟨m2, w5, w6, h2, rfl⟩
  · rw [if_neg z, La_law_1761_e _ _ _ _ _ _ _ _ _ _ _ _ kd_3 kd_208 kd_3]
    obtain ⟨A, m1, e1, s1, m2, e2, h2⟩ := ok_mark h (show 5 ≤ d by omega) (xs (i + 1)) true
    have e1 : LC_mark d 3 (xs (i + 1)) 1 m = yI A m1 := e1
    have e2 : Mo_mark d 208 (xs (i + 1)) 1 m1 = yI A m2 := e2
    rw [e1, bI_y, (gq1 s1 hi hL).1, (gq2 s1 hi hL).1, (gq1 s1 hi hL).2, (gq2 s1 hi hL).2, if_neg z, e2, bI_y, if_pos rfl]
    exact ⟨m2, w5, w6, h2, rfl⟩
theorem op_1280 (hd : 100 ≤ d) (h : LJ v t tp V p L xs n m) (hi : i + 7 ≤ L) (hL : L ≤ 3584) : Nx d L xs n i (La_law_1280 (d + 1) 0 3 208 258 (nI i) w5 w6 m) := by
  rw [La_law_1280_e _ _ _ _ _ _ _ _ _ kd_3 kd_208]
  have s := h.2.2.2.1
  rw [(gq1 s hi hL).1, (gq2 s hi hL).1, (gq3 s hi hL).1, (gq4 s hi hL).1, (gq5 s hi hL).1, (gq1 s hi hL).2, (gq2 s hi hL).2, (gq3 s hi hL).2, (gq4 s hi hL).2, (gq5 s hi hL).2]
  obtain ⟨m1, f1, e1⟩ := La_sec_s h.1.1.1.1 h.2.1.2.1.1 (show 16 ≤ d by omega) (xs (i + 1)) (xs (i + 2)) (xs (i + 3)) (xs (i + 4)) (xs (i + 5))
  have h1 := h.K f1
  by_cases z : secB v (xs (i + 1)) (xs (i + 2)) (xs (i + 3)) (xs (i + 4)) (xs (i + 5)) = true
  · rw [if_pos z] at e1
    have h1 := h1.W (secV v (xs (i + 1)) (xs (i + 2)) (xs (i + 3)) (xs (i + 4)) (xs (i + 5)))
    obtain ⟨m2, f2, e2, -⟩ := Mo_secret_s h.1.1.1.1 (show 5 ≤ d by omega) h1.2.1.1.1 (xs (i + 1)) (xs (i + 2)) (xs (i + 3)) (xs (i + 4)) (xs (i + 5))
    obtain ⟨e2, g2⟩ := e2 z
    have h2 := h1.Q f2
    have s1 := h1.2.2.2.1
    have eL : gL m2 258 0 = secV v (xs (i + 1)) (xs (i + 2)) (xs (i + 3)) (xs (i + 4)) (xs (i + 5)) := (f2.2.1 258 0 (sQ_md (by omega))).trans (gL_w _ _ _ _)
    rw [e1, bI_y, (gq1 s1 hi hL).1, (gq2 s1 hi hL).1, (gq3 s1 hi hL).1, (gq4 s1 hi hL).1, (gq5 s1 hi hL).1, (gq1 s1 hi hL).2, (gq2 s1 hi hL).2, (gq3 s1 hi hL).2, (gq4 s1 hi hL).2, (gq5 s1 hi hL).2, e2, bL_y, Mo_thrown_e _ _ _ kd_208, bI_y, g2, if_pos rfl, if_neg (fun q => q rfl), show (0 : Int32) = nI 0 from rfl, ga_258 (by decide), n_cl (by decide), eL, if_pos (show lg_cmp (secV v (xs (i + 1)) (xs (i + 2)) (xs (i + 3)) (xs (i + 4)) (xs (i + 5))) (secV v (xs (i + 1)) (xs (i + 2)) (xs (i + 3)) (xs (i + 4)) (xs (i + 5))) = nI 0 from (cmp0 _ _).mpr rfl)]
    exact ⟨m2, _, _, ⟨v, t, tp, V, p, h2.1, h2.2.1, h2.2.2.up⟩, rfl⟩
  · rw [if_neg z] at e1
    have h1 := h1.X
    obtain ⟨m2, f2, -, e2⟩ := Mo_secret_s h.1.1.1.1 (show 5 ≤ d by omega) h1.2.1.1.1 (xs (i + 1)) (xs (i + 2)) (xs (i + 3)) (xs (i + 4)) (xs (i + 5))
    obtain ⟨e2, g2⟩ := e2 z
    have h2 := h1.Q f2
    have s1 := h1.2.2.2.1
    rw [e1, bI_y, (gq1 s1 hi hL).1, (gq2 s1 hi hL).1, (gq3 s1 hi hL).1, (gq4 s1 hi hL).1, (gq5 s1 hi hL).1, (gq1 s1 hi hL).2, (gq2 s1 hi hL).2, (gq3 s1 hi hL).2, (gq4 s1 hi hL).2, (gq5 s1 hi hL).2, e2, bL_y, Mo_thrown_e _ _ _ kd_208, bI_y, g2, if_pos rfl, if_pos (by decide)]
    exact ⟨m2, _, _, ⟨v, t, tp, V, p, h2⟩, rfl⟩
theorem tsw_P {P : oX → Prop} {D : oX} (hD : P D) (x : Int32) : ∀ (As : List oX) (k : Int32), (∀ A ∈ As, P A) → P (tsw k As D x)
  | [], _, _ => hD
  | A :: As, k, h => by
    unfold tsw
    by_cases z : x = k
    · rw [if_pos z]; exact h A (List.mem_cons_self ..)
    · rw [if_neg z]; exact tsw_P hD x As (k + 1) (fun B hB => h B (List.mem_cons_of_mem _ hB))
theorem fcs {P : oX → Prop} {A : oX} {As : List oX} (h1 : P A) (h2 : ∀ B ∈ As, P B) : ∀ B ∈ A :: As, P B := List.forall_mem_cons.mpr ⟨h1, h2⟩
theorem law_call (hd : 100 ≤ d) (h : LJ v t tp V p L xs n m) (hi : i + 7 ≤ L) (hL : L ≤ 3584) (x : Int32) : Nx d L xs n i (tsw (0 : Int32) [La_law_204 (d + 1) 0 3 208 258 (nI i) w5 w6 m, La_law_351 (d + 1) 0 3 208 258 (nI i) w5 w6 m, La_law_364 (d + 1) 0 3 208 258 (nI i) w5 w6 m, La_law_401 (d + 1) 0 3 208 258 (nI i) w5 w6 m, La_law_438 (d + 1) 0 3 208 258 (nI i) w5 w6 m, La_law_463 (d + 1) 0 3 208 258 (nI i) w5 w6 m, La_law_524 (d + 1) 0 3 208 258 (nI i) w5 w6 m, La_law_561 (d + 1) 0 3 208 258 (nI i) w5 w6 m, La_law_586 (d + 1) 0 3 208 258 (nI i) w5 w6 m, La_law_623 (d + 1) 0 3 208 258 (nI i) w5 w6 m, La_law_672 (d + 1) 0 3 208 258 (nI i) w5 w6 m, La_law_697 (d + 1) 0 3 208 258 (nI i) w5 w6 m, La_law_722 (d + 1) 0 3 208 258 (nI i) w5 w6 m, La_law_747 (d + 1) 0 3 208 258 (nI i) w5 w6 m, La_law_785 (d + 1) 0 3 208 258 (nI i) w5 w6 m, La_law_822 (d + 1) 0 3 208 258 (nI i) w5 w6 m, La_law_847 (d + 1) 0 3 208 258 (nI i) w5 w6 m, La_law_908 (d + 1) 0 3 208 258 (nI i) w5 w6 m, La_law_969 (d + 1) 0 3 208 258 (nI i) w5 w6 m, La_law_1058 (d + 1) 0 3 208 258 (nI i) w5 w6 m, La_law_1071 (d + 1) 0 3 208 258 (nI i) w5 w6 m, La_law_1108 (d + 1) 0 3 208 258 (nI i) w5 w6 m, La_law_1169 (d + 1) 0 3 208 258 (nI i) w5 w6 m, La_law_1206 (d + 1) 0 3 208 258 (nI i) w5 w6 m, La_law_1243 (d + 1) 0 3 208 258 (nI i) w5 w6 m, La_law_1280 (d + 1) 0 3 208 258 (nI i) w5 w6 m, La_law_1383 (d + 1) 0 3 208 258 (nI i) w5 w6 m, La_law_1420 (d + 1) 0 3 208 258 (nI i) w5 w6 m, La_law_1457 (d + 1) 0 3 208 258 (nI i) w5 w6 m, La_law_1482 (d + 1) 0 3 208 258 (nI i) w5 w6 m, La_law_1519 (d + 1) 0 3 208 258 (nI i) w5 w6 m, La_law_1556 (d + 1) 0 3 208 258 (nI i) w5 w6 m, La_law_1605 (d + 1) 0 3 208 258 (nI i) w5 w6 m, La_law_1642 (d + 1) 0 3 208 258 (nI i) w5 w6 m, La_law_1703 (d + 1) 0 3 208 258 (nI i) w5 w6 m, La_law_1740 (d + 1) 0 3 208 258 (nI i) w5 w6 m, La_law_1793 (d + 1) 0 3 208 258 (nI i) w5 w6 m] (La_law_1818 (d + 1) 0 3 208 258 (nI i) w5 w6 m) x) :=
  tsw_P ⟨m, w5, w6, ⟨v, t, tp, V, p, h.1, h.2.1, h.2.2.up⟩, rfl⟩ x _ _ (fcs (op_204 hd h hi hL) (fcs (op_351 hd h hi hL) (fcs (op_364 hd h hi hL) (fcs (op_401 hd h hi hL) (fcs (op_438 hd h hi hL) (fcs (op_463 hd h hi hL) (fcs (op_524 hd h hi hL) (fcs (op_561 hd h hi hL) (fcs (op_586 hd h hi hL) (fcs (op_623 hd h hi hL) (fcs (op_672 hd h hi hL) (fcs (op_697 hd h hi hL) (fcs (op_722 hd h hi hL) (fcs (op_747 hd h hi hL) (fcs (op_785 hd h hi hL) (fcs (op_822 hd h hi hL) (fcs (op_847 hd h hi hL) (fcs (op_908 hd h hi hL) (fcs (op_969 hd h hi hL) (fcs (op_1058 hd h hi hL) (fcs (op_1071 hd h hi hL) (fcs (op_1108 hd h hi hL) (fcs (op_1169 hd h hi hL) (fcs (op_1206 hd h hi hL) (fcs (op_1243 hd h hi hL) (fcs (op_1280 hd h hi hL) (fcs (op_1383 hd h hi hL) (fcs (op_1420 hd h hi hL) (fcs (op_1457 hd h hi hL) (fcs (op_1482 hd h hi hL) (fcs (op_1519 hd h hi hL) (fcs (op_1556 hd h hi hL) (fcs (op_1605 hd h hi hL) (fcs (op_1642 hd h hi hL) (fcs (op_1703 hd h hi hL) (fcs (op_1740 hd h hi hL) (fcs (op_1793 hd h hi hL) (fun B hB => by cases hB))))))))))))))))))))))))))))))))))))))
end Call
