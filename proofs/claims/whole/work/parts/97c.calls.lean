/-! ===== the calls that change what is so ===== -/
theorem sMd_of {S : Nat → Nat → Bool} {m m' : eM} (f : Fr S m m') (hS : ∀ a j, a < 208 ∨ a = 221 ∨ 257 < a → S a j = false) : Fr sMd m m' := f.up fun a j q => hS a j (by have := of_decide_eq_false q; omega)
theorem ok_cu {v v' : eV} {t : Nat} {tp : Nat → Nat} {V : Nat → Option eV} {p L : Nat} {xs : Nat → Int32} {n : Nat} {m : eM} (h : LJ v t tp V p L xs n m) (hv : Va v') (hk : (∀ j, isq v' j = isq v j) ∧ nam v' = nam v ∧ nF v' = nF v) {A : Int32} {F G : eM → oX} (hF : ∃ m', Fr sCu m m' ∧ F m = yI A m' ∧ Cn v' p m') (hG : ∀ m1, Mp v m1 → ∃ m', Fr sMu m1 m' ∧ G m1 = yI A m' ∧ Mp v' m') : OK2 L xs n F G m := by
  obtain ⟨m1, f1, e1, c1⟩ := hF
  have M1 := h.2.1.1.cf f1.cf (f1.sk h.2.1.1.1.1)
  have C1 := h.2.1.2.cu f1 c1
  have D1 := h.2.2.fr f1 rfl (fun a j q => decide_eq_false (by omega)) (fun j => rfl)
  obtain ⟨m2, f2, e2, c2⟩ := hG m1 M1.1
  have n2 : ∀ a j, a < 208 ∨ a = 221 ∨ 257 < a → sMu a j = false := fun a j q => decide_eq_false (by omega)
  exact ⟨A, m1, e1, D1.2.1, m2, e2, v', t, tp, V, p, ⟨h.1.1.of hv hk.1, h.1.2.1.of hk.2.1 hk.2.2, h.1.2.2⟩, ⟨M1.mu f2 c2, C1.md (sMd_of f2 n2)⟩, (D1.fr f2 (n2 _ _ (by omega)) (fun a j q => n2 _ _ (by omega)) (fun j => n2 _ _ (by omega))).up⟩
theorem SD.cf {L : Nat} {xs : Nat → Int32} {n : Nat} {m m' : eM} (h : SD L xs n m) (f : CF m m') (x1 : gX m' = gX m) (x2 : gH m' = gH m) (x3 : gS m' = gS m) (x4 : gN m' = gN m) : SD L xs n m' := by
  obtain ⟨⟨a1, a2⟩, ⟨b1, b2⟩, ⟨k, k1, k2⟩, c1, c2⟩ := h
  refine ⟨⟨((f 221 0 (Or.inr (by decide))).1).trans a1, fun a j q => ?_⟩, ⟨fun j hj => ((f 0 j (Or.inl rfl)).1).trans (b1 j hj), x4.trans b2⟩, ⟨k, k1, x1.trans k2⟩, by rw [x2]; exact c1, by rw [x3]; exact c2⟩
  rw [x1] at q
  rw [(f a j (Or.inr (by omega))).1, (f a j (Or.inr (by omega))).2]
  exact a2 a j q
theorem ok_mark {v : eV} {t : Nat} {tp : Nat → Nat} {V : Nat → Option eV} {p L : Nat} {xs : Nat → Int32} {n : Nat} {m : eM} (h : LJ v t tp V p L xs n m) {D : Nat} (hD : 5 ≤ D) (x : Int32) (B : Bool) : OK2 L xs n (fun m => LC_mark D 3 x (bb B) m) (fun m => Mo_mark D 208 x (bb B) m) m := by
  obtain ⟨m1, p', f1, e1, c1, x1, x2, x3, x4⟩ := LC_mark_s h.2.1.2 hD x B
  have M1 := h.2.1.1.cf f1 c1.1.1.2.2.1
  have D1 := h.2.2.cf f1 x1 x2 x3 x4
  obtain ⟨m2, f2, e2, c2⟩ := Mo_mark_s h.1.1 M1 (show 2 ≤ D by omega) x B
  have hN := h.1.2.1.mk h.1.2.2 x B
  exact ⟨_, m1, e1, D1.2.1, m2, e2, _, t, tp, _, p', ⟨h.1.1.mk x B, hN.1, hN.2⟩, ⟨c2, c1.md f2⟩, (D1.fr f2 rfl (fun a j q => decide_eq_false (by omega)) (fun j => rfl)).up⟩
theorem ok_say {v : eV} {t : Nat} {tp : Nat → Nat} {V : Nat → Option eV} {p L : Nat} {xs : Nat → Int32} {n : Nat} {m : eM} (h : LJ v t tp V p L xs n m) {D : Nat} (hD : 75 ≤ D) (x y : Int32) : OK2 L xs n (fun m => LC_say D 3 x y m) (fun m => Mo_say D 208 x y m) m := by
  obtain ⟨m1, f1, e1, c1⟩ := LC_say_s h.1.1 h.1.2.1 h.2.1.2 hD x y
  have M1 := h.2.1.1.cf (f1.cfS fun a j q => sSy_n (by omega)) (f1.sk h.2.1.1.1.1)
  have D1 := h.2.2.fr f1 rfl (fun a j q => sSy_n (by omega)) (fun j => rfl)
  obtain ⟨m2, f2, e2, c2⟩ := Mo_say_s h.1.1 h.1.2.1 M1 D1.1.1 (show 9 ≤ D by omega) x y
  have hb := nx_say_vb h.1.1.1.2 (t, tp) x y
  exact ⟨_, m1, e1, D1.2.1, m2, e2, _, 0, tp, V, p, ⟨h.1.1.z (nx_say_va h.1.1.1.1 _ x y) hb.1, h.1.2.1.of hb.2 (kp_say _ v x y), h.1.2.2⟩, ⟨c2, c1.md (sMd_of f2 fun a j q => sMx_n (by omega))⟩, (D1.fr f2 rfl (fun a j q => sMx_n (by omega)) (fun j => rfl)).up⟩
theorem ok_offer {v : eV} {t : Nat} {tp : Nat → Nat} {V : Nat → Option eV} {p L : Nat} {xs : Nat → Int32} {n : Nat} {m : eM} (h : LJ v t tp V p L xs n m) {D : Nat} (hD : 75 ≤ D) (x y : Int32) : OK2 L xs n (fun m => LC_offer D 3 x y m) (fun m => Mo_offer D 208 x y m) m := by
  obtain ⟨m1, f1, e1, c1⟩ := LC_offer_s h.1.1 h.1.2.1 h.2.1.2 hD x y
  have M1 := h.2.1.1.cf (f1.cfS fun a j q => sSy_n (by omega)) (f1.sk h.2.1.1.1.1)
  have D1 := h.2.2.fr f1 rfl (fun a j q => sSy_n (by omega)) (fun j => rfl)
  obtain ⟨m2, f2, e2, c2⟩ := Mo_offer_s h.1.1 h.1.2.1 M1 D1.1.1 (show 9 ≤ D by omega) x y
  have hb := nx_offer_vb h.1.1.1.2 (t, tp) x y
  exact ⟨_, m1, e1, D1.2.1, m2, e2, _, 0, tp, V, p, ⟨h.1.1.z (nx_offer_va h.1.1.1.1 _ x y) hb.1, h.1.2.1.of hb.2 (kp_offer _ v x y), h.1.2.2⟩, ⟨c2, c1.md (sMd_of f2 fun a j q => sMx_n (by omega))⟩, (D1.fr f2 rfl (fun a j q => sMx_n (by omega)) (fun j => rfl)).up⟩
theorem MI.cf2 {v : eV} {t : Nat} {tp : Nat → Nat} {V : Nat → Option eV} {m m' : eM} (h : MI v t tp V m) (f : ∀ a j, 208 ≤ a → a < 259 → gI m' a j = gI m a j ∧ gL m' a j = gL m a j) (hs : Sk m') : MI v t tp V m' := by
  obtain ⟨h1, ⟨t1, t2⟩, hV⟩ := h
  refine ⟨⟨hs, fun a j q z => ?_, fun a j q z => ?_, fun j hj => ((f 211 j (by decide) (by decide)).2).trans (h1.2.2.2 j hj)⟩, ⟨((f 208 1 (by decide) (by decide)).1).trans t1, fun i hi => ((f 209 i (by decide) (by decide)).1).trans (t2 i hi)⟩, fun k hk => ⟨((f 255 k (by decide) (by decide)).1).trans (hV k hk).1, fun w hw => ((hV k hk).2 w hw).fr (fun j _ => (f 256 _ (by decide) (by decide)).1) (fun j _ => (f 257 _ (by decide) (by decide)).2)⟩⟩
  · have := mpI_a z
    exact ((f a j (by omega) (by omega)).1).trans (h1.2.1 a j q z)
  · have := mpL_a z
    exact ((f a j (by omega) (by omega)).2).trans (h1.2.2.1 a j q z)
theorem ok_parish {v : eV} {t : Nat} {tp : Nat → Nat} {V : Nat → Option eV} {p L : Nat} {xs : Nat → Int32} {n : Nat} {m : eM} (h : LJ v t tp V p L xs n m) {D : Nat} (hD : 70 ≤ D) : OK2 L xs n (fun m => LC_parish D 3 m) (fun m => Mo_parish D 208 m) m := by
  obtain ⟨⟨a1, a2⟩, ⟨b1, b2⟩, ⟨k, k1, k2⟩, c1, c2⟩ := h.2.2
  obtain ⟨m1, e1, ⟨x1, x2, x3, x4⟩, Z1, C1, sk1, hin, hir⟩ := LC_parish_s h.1.1 h.2.1.2 k2 a2 hD
  have M1 := h.2.1.1.cf2 (fun a j q1 q2 => C1 a j (Or.inr ⟨q1, by omega⟩)) sk1
  have S1 : SC L xs m1 := ⟨fun j hj => ((C1 0 j (Or.inl rfl)).1).trans (b1 j hj), x4.trans b2⟩
  have D1 : SD L xs (n + 1) m1 := ⟨⟨((C1 221 0 (Or.inr ⟨by decide, by omega⟩)).1).trans a1, Z1⟩, S1, ⟨k + 1, by omega, by omega⟩, by omega, by omega⟩
  obtain ⟨m2, v', f2, e2, c3, d1, d2⟩ := Mo_parish_s h.1.1 M1 D1.1.1 (show 12 ≤ D by omega)
  have fd := sMd_of f2 fun a j q => sMx_n (by omega)
  have D2 := D1.fr f2 rfl (fun a j q => sMx_n (by omega)) (fun j => rfl)
  refine ⟨_, m1, e1, S1, m2, e2, ?_⟩
  cases y : pR (t, tp) with
  | inl e =>
    have ev := d1 e y
    rw [ev] at c3
    exact ⟨v, 0, tp, V, p, ⟨h.1.1.z h.1.1.1.1 h.1.1.1.2, h.1.2⟩, ⟨c3, (hin e y).md fd⟩, D2⟩
  | inr r =>
    obtain ⟨hA, hV, hB⟩ := d2 r y
    have hva := hA.va hV
    exact ⟨v', 0, tp, V, gX m, ⟨h.1.1.z hva.1 hB, hva.2, h.1.2.2⟩, ⟨c3, ((hir r y).2 v' hA).md fd⟩, D2⟩
theorem CI.tp {v : eV} {p t : Nat} {tp : Nat → Nat} {V : Nat → Option eV} {m m' : eM} {s : eTp} (h : CI v p t tp V m) (f : Fr sT45 m m') (hT : TpM 4 5 s m') : CI v p s.1 s.2 V m' := by
  have nS : ∀ a j, 5 < a → sT45 a j = false := fun a j q => by
    have q1 : a ≠ 4 := by omega
    have q2 : a ≠ 5 := by omega
    unfold sT45
    simp [q1, q2]
  obtain ⟨⟨⟨c1, c2, c3, c4⟩, hx⟩, -, hV⟩ := h
  have pO : ∀ {q}, pOK q → ∀ a j, q ≤ a → a ≤ q + 11 → sT45 a j = false := fun hq a j h1 h2 => nS a j (by unfold pOK at hq; omega)
  refine ⟨⟨⟨c1.fr f (fun _ => rfl) (fun a j _ _ => nS _ _ (by omega)) (pO c4), c2.fr f (fun _ => rfl) (fun _ => rfl), f.sk c3, c4⟩, by rw [f.x]; exact hx⟩, ⟨hT.1, hT.2.2.1⟩, fun k hk => ⟨(f.1 _ _ rfl).trans (hV k hk).1, fun w hw => ?_⟩⟩
  obtain ⟨q, q1, q2, q3⟩ := (hV k hk).2 w hw
  exact ⟨q, q1.fr f (fun _ => nS _ _ (by omega)) (fun a j _ _ => nS _ _ (by omega)) (pO q2), q2, by rw [f.x]; exact q3⟩
def sFd (a j : Nat) : Bool := sT28 a j || (a == 208 && j == 0)
theorem sFd_n {a j : Nat} (h : ¬ (a = 209 ∨ a = 208 ∧ j < 2)) : sFd a j = false := by
  unfold sFd sT28
  have q1 : a ≠ 209 := by omega
  have q2 : ¬ (a = 208 ∧ j = 1) := by omega
  have q3 : ¬ (a = 208 ∧ j = 0) := by omega
  simp only [Bool.or_eq_false_iff, Bool.and_eq_false_iff, beq_eq_false_iff_ne]
  refine ⟨⟨q1, ?_⟩, ?_⟩ <;> omega
theorem mpI_fd {a j : Nat} {q : Nat × Nat} (h : mpI a j = some q) : sFd a j = false := sFd_n fun z => by
  rcases z with rfl | ⟨rfl, z⟩
  · unfold mpI at h
    simp at h
  · rcases (by omega : j = 0 ∨ j = 1) with rfl | rfl <;> cases h
theorem MI.tp {v : eV} {t : Nat} {tp : Nat → Nat} {V : Nat → Option eV} {m m' : eM} {s : eTp} (h : MI v t tp V m) (f : Fr sFd m m') (hT : TpM 208 209 s m') : MI v s.1 s.2 V m' := by
  obtain ⟨h1, -, hV⟩ := h
  refine ⟨⟨f.sk h1.1, fun a j q z => (f.1 _ _ (mpI_fd z)).trans (h1.2.1 a j q z), fun a j q z => ?_, fun j hj => (f.2.1 _ _ (sFd_n (by omega))).trans (h1.2.2.2 j hj)⟩, ⟨hT.1, hT.2.2.1⟩, fun k hk => ⟨(f.1 _ _ (sFd_n (by omega))).trans (hV k hk).1, fun w hw => ((hV k hk).2 w hw).fr (fun j _ => f.1 _ _ (sFd_n (by omega))) (fun j _ => f.2.1 _ _ (sFd_n (by omega)))⟩⟩
  have := mpL_a z
  exact (f.2.1 _ _ (sFd_n (by omega))).trans (h1.2.2.1 a j q z)
theorem ok_feed {v : eV} {t : Nat} {tp : Nat → Nat} {V : Nat → Option eV} {p L : Nat} {xs : Nat → Int32} {n : Nat} {m : eM} (h : LJ v t tp V p L xs n m) {D : Nat} (hD : 1 ≤ D) (X Y Z : Int64) : OK2 L xs n (fun m => LC_feed D 3 X Y Z m) (fun m => Mo_feed D 208 X Y Z m) m := by
  obtain ⟨a, ha, rfl⟩ : ∃ a, a < 2 ^ 64 ∧ X = lN a := ⟨_, X.toBitVec.isLt, (lN_to X).symm⟩
  obtain ⟨b, hb, rfl⟩ : ∃ a, a < 2 ^ 64 ∧ Y = lN a := ⟨_, Y.toBitVec.isLt, (lN_to Y).symm⟩
  obtain ⟨c, hc, rfl⟩ : ∃ a, a < 2 ^ 64 ∧ Z = lN a := ⟨_, Z.toBitVec.isLt, (lN_to Z).symm⟩
  have sk := h.2.1.1.1.1
  obtain ⟨m1, f1, e1, t1⟩ := LC_feed_s hD ha hb hc sk (tp_of h.1.1 h.2.1.2)
  have n1 : ∀ a j, a = 0 ∨ 208 ≤ a → sT45 a j = false := fun a j q => by
    have q1 : a ≠ 4 := by omega
    have q2 : a ≠ 5 := by omega
    unfold sT45
    simp [q1, q2]
  have M1 := h.2.1.1.cf (f1.cfS n1) (f1.sk sk)
  have D1 := h.2.2.fr f1 rfl (fun a j q => n1 a j (by omega)) (fun j => rfl)
  obtain ⟨m2, f2, e2, t2⟩ := Mo_feed_s D ha hb hc (f1.sk sk) (⟨M1.2.1.1, h.1.1.2.1.1, M1.2.1.2, h.1.1.2.1.2⟩ : TpM 208 209 (t, tp) m1)
  have f2 : Fr sFd m1 m2 := f2
  have C1 := h.2.1.2.tp f1 t1
  exact ⟨_, m1, e1, D1.2.1, m2, e2, v, _, _, V, p, ⟨⟨h.1.1.1, ⟨t2.2.1, t2.2.2.2⟩, h.1.1.2.2⟩, h.1.2⟩, ⟨M1.tp f2 t2, C1.md (sMd_of f2 fun a j q => sFd_n (by omega))⟩, (D1.fr f2 (sFd_n (by omega)) (fun a j q => sFd_n (by omega)) (fun j => sFd_n (by omega))).up⟩
