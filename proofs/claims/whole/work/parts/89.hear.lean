/-! ===== one more saying or offer ===== -/
def vTk (v : eV) (x p mn q : Nat) (S : Int64) : eV := upL (upV (upV (upV v 9 x p) 10 x mn) 11 x q) 0 x S
theorem vTk_o {v : eV} {x p mn q a j : Nat} {S : Int64} (h : j ≠ x ∨ a < 9 ∨ 11 < a) : (vTk v x p mn q S).1 a j = v.1 a j := by
  show (if a = 11 ∧ j = x then q else if a = 10 ∧ j = x then mn else if a = 9 ∧ j = x then p else v.1 a j) = _
  rw [if_neg (by omega), if_neg (by omega), if_neg (by omega)]
/-- with the count k put to n -/
def vHr (v : eV) (k x p mn q : Nat) (S : Int64) (n : Nat) : eV := upV (vTk v x p mn q S) 0 k n
theorem vHr_0 {v : eV} {k x p mn q n j : Nat} {S : Int64} (h : j ≠ k) : (vHr v k x p mn q S n).1 0 j = v.1 0 j := by
  show (if 0 = 0 ∧ j = k then n else (vTk v x p mn q S).1 0 j) = _
  rw [if_neg (fun q => h q.2), vTk_o (by omega)]
theorem vHr_k {v : eV} {k x p mn q n : Nat} {S : Int64} : (vHr v k x p mn q S n).1 0 k = n := if_pos ⟨rfl, rfl⟩
theorem vHr_1 {v : eV} {k x p mn q n a j : Nat} {S : Int64} (h : a ≠ 0) : (vHr v k x p mn q S n).1 a j = (vTk v x p mn q S).1 a j := if_neg fun q => h q.1
theorem vHr_b {v : eV} {k x p mn q n a : Nat} {S : Int64} (h : a ≠ 0) (h2 : a < 9 ∨ 11 < a) : (vHr v k x p mn q S n).1 a = v.1 a := funext fun j => by rw [vHr_1 h, vTk_o (by omega)]
theorem vHr_j {v : eV} {k x p mn q n a j : Nat} {S : Int64} (h : a ≠ 0) (h2 : j ≠ x) : (vHr v k x p mn q S n).1 a j = v.1 a j := by rw [vHr_1 h, vTk_o (by omega)]
theorem vHr_L {v : eV} {k x p mn q n j : Nat} {S : Int64} (h2 : j ≠ x) : soV (vHr v k x p mn q S n) j = soV v j := if_neg fun q => h2 q.2
theorem vHr_x {v : eV} {k x p mn q n : Nat} {S : Int64} : who (vHr v k x p mn q S n) x = p ∧ whn (vHr v k x p mn q S n) x = mn ∧ isq (vHr v k x p mn q S n) x = q ∧ soV (vHr v k x p mn q S n) x = S := by
  have h1 : ∀ a, a ≠ 0 → (vHr v k x p mn q S n).1 a x = (if a = 11 ∧ x = x then q else if a = 10 ∧ x = x then mn else if a = 9 ∧ x = x then p else v.1 a x) := fun a h => vHr_1 h
  refine ⟨?_, ?_, ?_, if_pos ⟨rfl, rfl⟩⟩
  · exact (h1 9 (by decide)).trans (by simp)
  · exact (h1 10 (by decide)).trans (by simp)
  · exact (h1 11 (by decide)).trans (by simp)
theorem vHr_c {v : eV} {k x p mn q n : Nat} {S : Int64} : com (vHr v k x p mn q S n) = com v := rfl
theorem vHr_va {v : eV} (hv : Va v) {k x p mn q n : Nat} {S : Int64} (hk : k = 4 ∧ x = nS v ∧ n = nS v + 1 ∧ nS v < 24 ∧ (∀ i, i < nS v → whn v i ≤ mn) ∨ k = 5 ∧ x = 24 + nO v ∧ n = nO v + 1 ∧ nO v < 6) (hp : p < nP v) (hm : mn < 1440) (hq : q ≤ 1) (hq1 : q = 1 → S = 0) (hS : ∀ w, 2 ^ nF v ≤ w → tb S w = false) : Va (vHr v k x p mn q S n) := by
  have e0 : nF (vHr v k x p mn q S n) = nF v := vHr_0 (by omega)
  have e1 : nPl (vHr v k x p mn q S n) = nPl v := vHr_0 (by omega)
  have e2 : nP (vHr v k x p mn q S n) = nP v := vHr_0 (by omega)
  have e3 : nCm (vHr v k x p mn q S n) = nCm v := vHr_0 (by omega)
  have e6 : nL (vHr v k x p mn q S n) = nL v := vHr_0 (by omega)
  have e7 : nWt (vHr v k x p mn q S n) = nWt v := vHr_0 (by omega)
  have e8 : tru (vHr v k x p mn q S n) = tru v := vHr_0 (by omega)
  have b1 : cha (vHr v k x p mn q S n) = cha v := vHr_b (by decide) (by decide)
  have b2 : bea (vHr v k x p mn q S n) = bea v := vHr_b (by decide) (by decide)
  have b3 : hom (vHr v k x p mn q S n) = hom v := vHr_b (by decide) (by decide)
  have b4 : kno (vHr v k x p mn q S n) = kno v := vHr_b (by decide) (by decide)
  have b5 : lawV (vHr v k x p mn q S n) = lawV v := vHr_b (by decide) (by decide)
  have b6 : lat (vHr v k x p mn q S n) = lat v := vHr_b (by decide) (by decide)
  have b7 : isc (vHr v k x p mn q S n) = isc v := vHr_b (by decide) (by decide)
  have b12 : lkC (vHr v k x p mn q S n) = lkC v := vHr_b (by decide) (by decide)
  have b13 : lkM (vHr v k x p mn q S n) = lkM v := vHr_b (by decide) (by decide)
  have b14 : lkF (vHr v k x p mn q S n) = lkF v := vHr_b (by decide) (by decide)
  have b15 : lkT (vHr v k x p mn q S n) = lkT v := vHr_b (by decide) (by decide)
  have b16 : wtC (vHr v k x p mn q S n) = wtC v := vHr_b (by decide) (by decide)
  have b17 : wtM (vHr v k x p mn q S n) = wtM v := vHr_b (by decide) (by decide)
  have hs := hv.s
  have ho := hv.o
  have cS : nS (vHr v k x p mn q S n) ≤ 24 ∧ nO (vHr v k x p mn q S n) ≤ 6 ∧ (∀ j, (j < nS (vHr v k x p mn q S n) ∨ 24 ≤ j ∧ j < 24 + nO (vHr v k x p mn q S n)) → j = x ∨ j ≠ x ∧ (j < nS v ∨ 24 ≤ j ∧ j < 24 + nO v)) ∧ ∀ j, j < nS (vHr v k x p mn q S n) → j < nS v ∨ j = x ∧ x = nS v ∧ k = 4 := by
    rcases hk with ⟨rfl, rfl, rfl, h4, h5⟩ | ⟨rfl, rfl, rfl, h4⟩
    · have a1 : nS (vHr v 4 (nS v) p mn q S (nS v + 1)) = nS v + 1 := vHr_k
      have a2 : nO (vHr v 4 (nS v) p mn q S (nS v + 1)) = nO v := vHr_0 (by decide)
      rw [a1, a2]
      exact ⟨by omega, by omega, fun j hj => by omega, fun j hj => by omega⟩
    · have a1 : nS (vHr v 5 (24 + nO v) p mn q S (nO v + 1)) = nS v := vHr_0 (by decide)
      have a2 : nO (vHr v 5 (24 + nO v) p mn q S (nO v + 1)) = nO v + 1 := vHr_k
      rw [a1, a2]
      exact ⟨by omega, by omega, fun j hj => by omega, fun j hj => Or.inl hj⟩
  obtain ⟨c1, c2, c3, c4⟩ := cS
  obtain ⟨x1, x2, x3, x4⟩ := vHr_x (v := v) (k := k) (x := x) (p := p) (mn := mn) (q := q) (n := n) (S := S)
  have oth : ∀ j, j ≠ x → who (vHr v k x p mn q S n) j = who v j ∧ whn (vHr v k x p mn q S n) j = whn v j ∧ isq (vHr v k x p mn q S n) j = isq v j ∧ soV (vHr v k x p mn q S n) j = soV v j := fun j h => ⟨vHr_j (by decide) h, vHr_j (by decide) h, vHr_j (by decide) h, vHr_L h⟩
  unfold Va at hv ⊢
  rw [e0, e1, e2, e3, e6, e7, e8, b1, b2, b3, b4, b5, b6, b7, b12, b13, b14, b15, b16, b17]
  obtain ⟨a1, a2, a3, a4, a5, a6, a7, a8, a9, a10, a11, a12, a13, a14, a15, a16⟩ := hv
  refine ⟨a1, ⟨c1, c2, a2.2.2⟩, a3, a4, a5, a6, a7, a8, a9, a10, a11, fun j hj => ?_, fun i j hij hj => ?_, a14, a15, a16⟩
  · rcases c3 j hj with z | ⟨z, hj'⟩
    · rw [z, x1, x2, x3, x4]
      exact ⟨hp, hm, hq, hq1, hS⟩
    · obtain ⟨o1, o2, o3, o4⟩ := oth j z
      rw [o1, o2, o3, o4]
      exact a12 j hj'
  · rcases c4 j hj with z | ⟨z, z2, z3⟩
    · have hx : i ≠ x ∧ j ≠ x := by
        rcases hk with ⟨-, q, -⟩ | ⟨-, q, -⟩ <;> omega
      rw [(oth i hx.1).2.1, (oth j hx.2).2.1]
      exact a13 i j hij z
    · rw [z, x2]
      by_cases y : i = x
      · rw [y, x2]; exact Nat.le_refl _
      · rw [(oth i y).2.1]
        rcases hk with ⟨-, -, -, -, q⟩ | ⟨q, -⟩
        · exact q i (by omega)
        · omega
/-- the others stay as they are -/
theorem vHr_lie {v : eV} {k x p mn q n : Nat} {S : Int64} (hk : k = 4 ∨ k = 5) {j : Nat} (hj : j ≠ x) (l : Nat) : lieM (vHr v k x p mn q S n) j l = lieM v j l := by
  have e0 : nF (vHr v k x p mn q S n) = nF v := vHr_0 (by omega)
  have b4 : kno (vHr v k x p mn q S n) = kno v := vHr_b (by decide) (by decide)
  have o1 : who (vHr v k x p mn q S n) j = who v j := vHr_j (by decide) hj
  have o3 : isq (vHr v k x p mn q S n) j = isq v j := vHr_j (by decide) hj
  have o4 : soV (vHr v k x p mn q S n) j = soV v j := vHr_L hj
  have el : likeV (vHr v k x p mn q S n) = likeV v := by
    funext f w u
    unfold likeV
    rw [e0, vHr_c]
  unfold lieM lieV
  rw [e0, o1, o3, o4, b4, el]
theorem vHr_new {v : eV} {k x p mn q n : Nat} {S : Int64} (hk : k = 4 ∨ k = 5) (hq : q ≤ 1) (l : Nat) : lieM (vHr v k x p mn q S n) x l = if q = 1 then 0 else lieG v S l p := by
  have e0 : nF (vHr v k x p mn q S n) = nF v := vHr_0 (by omega)
  have b4 : kno (vHr v k x p mn q S n) = kno v := vHr_b (by decide) (by decide)
  have el : likeV (vHr v k x p mn q S n) = likeV v := by
    funext f w u
    unfold likeV
    rw [e0, vHr_c]
  obtain ⟨x1, x2, x3, x4⟩ := vHr_x (v := v) (k := k) (x := x) (p := p) (mn := mn) (q := q) (n := n) (S := S)
  by_cases z : q = 1
  · rw [if_pos z, lieM_q (by rw [x3]; exact z)]
  · rw [if_neg z, lieM_G (by rw [x3]; omega), x1, x4]
    unfold lieG
    rw [e0, b4, el]
theorem ent_hr {v : eV} {k x p mn q n : Nat} {S : Int64} (hk : k = 4 ∨ k = 5) {t i y : Nat} {m : eM} (h : ent v t i y m) (hy : y ≠ x) : ent (vHr v k x p mn q S n) t i y m := by
  have e2 : nP (vHr v k x p mn q S n) = nP v := vHr_0 (by omega)
  have o1 : who (vHr v k x p mn q S n) y = who v y := vHr_j (by decide) hy
  have o2 : whn (vHr v k x p mn q S n) y = whn v y := vHr_j (by decide) hy
  have o4 : soV (vHr v k x p mn q S n) y = soV v y := vHr_L hy
  unfold ent at h ⊢
  rw [e2, o1, o2, o4, vHr_lie hk hy, vHr_lie hk hy]
  exact h
theorem Pp_hr {v : eV} {k x p mn q n : Nat} {S : Int64} (hk : k = 4 ∨ k = 5) {pp : Nat} {m : eM} (h : Pp v pp m) : Pp (vHr v k x p mn q S n) pp m := by
  have e0 : nF (vHr v k x p mn q S n) = nF v := vHr_0 (by omega)
  have e1 : nPl (vHr v k x p mn q S n) = nPl v := vHr_0 (by omega)
  have e2 : nP (vHr v k x p mn q S n) = nP v := vHr_0 (by omega)
  have e3 : nCm (vHr v k x p mn q S n) = nCm v := vHr_0 (by omega)
  have b1 : cha (vHr v k x p mn q S n) = cha v := vHr_b (by decide) (by decide)
  have b2 : bea (vHr v k x p mn q S n) = bea v := vHr_b (by decide) (by decide)
  have b3 : hom (vHr v k x p mn q S n) = hom v := vHr_b (by decide) (by decide)
  have b4 : kno (vHr v k x p mn q S n) = kno v := vHr_b (by decide) (by decide)
  have b5 : lawV (vHr v k x p mn q S n) = lawV v := vHr_b (by decide) (by decide)
  have b6 : lat (vHr v k x p mn q S n) = lat v := vHr_b (by decide) (by decide)
  have b7 : isc (vHr v k x p mn q S n) = isc v := vHr_b (by decide) (by decide)
  have b18 : nam (vHr v k x p mn q S n) = nam v := vHr_b (by decide) (by decide)
  unfold Pp at h ⊢
  rw [e0, e1, e2, e3, b1, b2, b3, b4, b5, b6, b7, b18, vHr_c]
  exact h
/-! what is heard -/
/-- a question or an E's worlds, or the FAULT -/
def lyV (s : eTp) (v : eV) : Sum Nat (Nat × Int64) := if tK s 0 = 0 then .inr (1, 0) else match pE s (nam v) (nF v) 0 with
  | .inl e => .inl e
  | .inr g => if tK s g.1 = 0 then .inr (0, woN (nF v) g.2.2.2) else .inl (er s g.1 1)
theorem lyV_q {s : eTp} {v : eV} (h : tK s 0 = 0) : lyV s v = .inr (1, 0) := if_pos h
theorem lyV_e {s : eTp} {v : eV} {e : Nat} (h : ¬ tK s 0 = 0) (h2 : pE s (nam v) (nF v) 0 = .inl e) : lyV s v = .inl e := by
  unfold lyV; rw [if_neg h, h2]
theorem lyV_s {s : eTp} {v : eV} {g : xG} (h : ¬ tK s 0 = 0) (h2 : pE s (nam v) (nF v) 0 = .inr g) : lyV s v = if tK s g.1 = 0 then .inr (0, woN (nF v) g.2.2.2) else .inl (er s g.1 1) := by
  unfold lyV; rw [if_neg h, h2]
theorem lyV_i {s : eTp} {v : eV} {f : Nat} {S : Int64} (h : lyV s v = .inr (f, S)) : f ≤ 1 ∧ (f = 1 → S = 0) ∧ ∀ w, 2 ^ nF v ≤ w → tb S w = false := by
  by_cases z : tK s 0 = 0
  · rw [lyV_q z] at h
    cases h
    exact ⟨Nat.le_refl _, fun _ => rfl, fun w _ => t_0 w⟩
  · cases y : pE s (nam v) (nF v) 0 with
    | inl e => rw [lyV_e z y] at h; cases h
    | inr g =>
      rw [lyV_s z y] at h
      by_cases x : tK s g.1 = 0
      · rw [if_pos x] at h
        cases h
        refine ⟨Nat.zero_le _, fun q => (by cases q), fun w hw => ?_⟩
        by_cases hw2 : w < 64
        · unfold woN
          rw [t_mk _ hw2, decide_eq_false (by omega)]; rfl
        · exact t_big (by omega)
      · rw [if_neg x] at h; cases h
/-! a FAULT is no 0 -/
def pF (s : eTp) (P : xP) : Prop := ∀ b e, b ≤ s.1 → P b = .inl e → 1 ≤ e ∧ e ≤ 5 + 16 * s.1
theorem er_b {s : eTp} {b k : Nat} (hb : b ≤ s.1) (h1 : 1 ≤ k) (h2 : k ≤ 5) : 1 ≤ er s b k ∧ er s b k ≤ 5 + 16 * s.1 := by
  have := (tB_le hb).2
  unfold er
  omega
theorem pLp_F {s : eTp} {sub : xP} {op : Nat → Option xOp} (hs : pG s sub) (ho : opK s op) (hf : pF s sub) : ∀ k g e, g.1 ≤ s.1 → pLp s sub op k g = .inl e → 1 ≤ e ∧ e ≤ 5 + 16 * s.1
  | 0, g, e, h1, hp => by cases hp
  | k + 1, g, e, h1, hp => by
    cases z : op g.1 with
    | none => rw [pLp_n z] at hp; cases hp
    | some o =>
      have k1 := tk_nx h1 (ho _ _ z)
      cases y : sub (tX s g.1) with
      | inl e' =>
        rw [pLp_e z y] at hp
        cases hp
        exact hf _ _ k1.1 y
      | inr x =>
        rw [pLp_s z y] at hp
        exact pLp_F hs ho hf k (opG o g x) e (hs _ x k1.1 y).1 hp
theorem pBn_F {s : eTp} {sub : xP} {op : Nat → Option xOp} (hs : pG s sub) (ho : opK s op) (hf : pF s sub) (F : Nat) : pF s (pBn s sub op F) := fun b e hb hp => by
  cases y : sub b with
  | inl e' =>
    rw [pBn_e y] at hp
    cases hp
    exact hf b _ hb y
  | inr g =>
    rw [pBn_s y] at hp
    exact pLp_F hs ho hf F g e (hs b g hb y).1 hp
theorem pTs_F {s : eTp} {P : xP} (hs : pG s P) (hf : pF s P) : pF s (pTs s P) := pBn_F (pTe_G hs) (opL_k s) (pBn_F (pSm_G hs) (opC_k s) (pBn_F (pPr_G hs) (opA_k s) (pBn_F hs (opM_k s) hf 1000) 1000) 1) 1000
theorem pPt_F (s : eTp) (N : Nat → Nat) (n : Nat) : ∀ r, pF s (pPt s N n r)
  | 0 => fun b e hb hp => by
    by_cases z : tkN s b = true
    · cases y : fnd N n (tW s b) with
      | none => rw [pPt_u z y] at hp; cases hp; exact er_b hb (by decide) (by decide)
      | some f => rw [pPt_f0 z y] at hp; cases hp; exact er_b hb (by decide) (by decide)
    · by_cases z1 : tkW s b 10631 = true ∨ tkS s b 40 = true ∨ tK s b = 3
      · rw [pPt_50 z z1] at hp; cases hp; exact er_b hb (by decide) (by decide)
      · rw [pPt_1 z (fun q => z1 (Or.inl q)) (fun q => z1 (Or.inr (Or.inl q))) (fun q => z1 (Or.inr (Or.inr q)))] at hp
        cases hp; exact er_b hb (by decide) (by decide)
  | r + 1 => fun b e hb hp => by
    by_cases z : tkN s b = true
    · cases y : fnd N n (tW s b) with
      | none => rw [pPt_u z y] at hp; cases hp; exact er_b hb (by decide) (by decide)
      | some f => rw [pPt_f z y] at hp; cases hp
    · by_cases z1 : tkW s b 10631 = true
      · have k1 := tk_nx hb (show tK s b ≠ 0 by have := (tkW_k z1).1; omega)
        cases y : pPt s N n r (tX s b) with
        | inl e' => rw [pPt_ne z z1 y] at hp; cases hp; exact pPt_F s N n r _ _ k1.1 y
        | inr g => rw [pPt_ns z z1 y] at hp; cases hp
      · by_cases z2 : tkS s b 40 = true
        · have k1 := tk_nx hb (show tK s b ≠ 0 by have := (tkS_k z2).1; omega)
          cases y : pTs s (pPt s N n r) (tX s b) with
          | inl e' => rw [pPt_ce z z1 z2 y] at hp; cases hp; exact pTs_F (pPt_G s N n r) (pPt_F s N n r) _ _ k1.1 y
          | inr g =>
            rw [pPt_cs z z1 z2 y] at hp
            by_cases z3 : tkS s g.1 41 = true
            · rw [if_pos z3] at hp; cases hp
            · rw [if_neg z3] at hp
              cases hp
              exact er_b (pTs_G (pPt_G s N n r) _ g k1.1 y).1 (by decide) (by decide)
        · by_cases z3 : tK s b = 3
          · rw [pPt_3 z z1 z2 z3] at hp; cases hp
          · rw [pPt_1 z z1 z2 z3] at hp; cases hp; exact er_b hb (by decide) (by decide)
theorem pE_F (s : eTp) (N : Nat → Nat) (n : Nat) : pF s (pE s N n) := pTs_F (pPt_G s N n 5) (pPt_F s N n 5)
theorem lyV_F {s : eTp} {v : eV} {e : Nat} (h : lyV s v = .inl e) : 1 ≤ e ∧ e ≤ 5 + 16 * s.1 := by
  by_cases z : tK s 0 = 0
  · rw [lyV_q z] at h; cases h
  · cases y : pE s (nam v) (nF v) 0 with
    | inl e' => rw [lyV_e z y] at h; cases h; exact pE_F s _ _ 0 _ (Nat.zero_le _) y
    | inr g =>
      rw [lyV_s z y] at h
      by_cases x : tK s g.1 = 0
      · rw [if_pos x] at h; cases h
      · rw [if_neg x] at h
        cases h
        exact er_b (pE_G s _ _ 0 g (Nat.zero_le _) y).1 (by decide) (by decide)
/-! the class hears -/
def sHr (a j : Nat) : Bool := sFo a j || sFw a j
theorem Fr.foH {m m' : eM} (f : Fr sFo m m') : Fr sHr m m' := f.up fun a j q => by
  unfold sHr at q
  rw [Bool.or_eq_false_iff] at q
  exact q.1
theorem Fr.fwH {m m' : eM} (f : Fr sFw m m') : Fr sHr m m' := f.up fun a j q => by
  unfold sHr at q
  rw [Bool.or_eq_false_iff] at q
  exact q.2
theorem sHr_n {a j : Nat} (h1 : a ≠ 4 ∨ j < 2 ∨ 8 < j) (h2 : a ≠ 6 ∨ j ≠ 2 ∧ j ≠ 3) (h3 : a ≠ 7) (h4 : a ≠ 8) : sHr a j = false := by
  unfold sHr
  rw [sFo_n h1 (by omega) h3, Bool.false_or]
  unfold sFw
  rw [Bool.or_eq_false_iff]
  refine ⟨?_, by simp [h4]⟩
  rcases h2 with z | z
  · simp [z]
  · simp [z.2]
theorem Ta_open_s {D : Nat} (hD : 2 ≤ D) {s : eTp} {m : eM} (hs : Sk m) (h : TpM 4 5 s m) : ∃ m', Fr sFo m m' ∧ Ta_open D 4 m = yV m' ∧ TkA s 0 m' ∧ gI m' 4 8 = 0 ∧ TpM 4 5 s m' := by
  obtain ⟨d, rfl⟩ : ∃ d, D = d + 1 := ⟨D - 1, by omega⟩
  have f0 : Fr sFo m (sI (sI m 4 2 0) 4 8 0) := (Fr.rfl'.i rfl).i rfl
  have h0 : TpM 4 5 s (sI (sI m 4 2 0) 4 8 0) := ⟨h.1, h.2.1, h.2.2.1, h.2.2.2⟩
  obtain ⟨m', f, e, k⟩ := Ta_step_s (D := d) (by omega) (b := 0) (Nat.zero_le _) (f0.sk hs) h0 rfl
  refine ⟨m', f0.tr f.tkF, ?_, k, (f.1 _ _ (sTk_n (by omega))).trans (gI_w _ _ _ _), h0.st f⟩
  rw [Ta_open_e _ _ _ kd_4, mI_u, mI_u, e, bV_y]
theorem Ta_ends_s {D : Nat} (hD : 1 ≤ D) {s : eTp} {b : Nat} {m : eM} (h : TkA s b m) (h8 : gI m 4 8 = 0) : Ta_ends D 4 m = if tK s b = 0 then yI 1 m else yI 0 (sI m 4 8 (nI (er s b 1))) := by
  obtain ⟨d, rfl⟩ : ∃ d, D = d + 1 := ⟨D - 1, by omega⟩
  have hk := tK_le s b
  rw [Ta_ends_e _ _ _ kd_4, h.2.1]
  by_cases z : tK s b = 0
  · rw [if_pos z, if_pos (by rw [z]; rfl)]
  · rw [if_neg z, if_neg (by rw [show (0 : Int32) = nI 0 from rfl, n_eq (by omega) (by omega)]; exact z), show (1 : Int32) = nI 1 from rfl, Ta_wrong_s h h8, bI_y, if_pos rfl]
theorem Tk_add_s {t n : Nat} {m : eM} (h : TkZ t n m) (hn : n < 31) {D : Nat} (hD : 2 ≤ D) (sp mn : Int32) (so pl kl : Int64) : Tk_add D t sp mn so pl kl m = yV (wrT t n sp mn so pl kl (sI m t 5 (nI (n + 1)))) := by
  obtain ⟨d, rfl⟩ : ∃ d, D = d + 2 := ⟨D - 2, by omega⟩
  have z1 : TkZ t (n + 1) (sI m t 5 (nI (n + 1))) := ⟨h.1, h.2.1, gI_w _ _ _ _, by omega⟩
  have em : iMin (nI (n + 1)) 31 = nI (n + 1) := by
    refine (iMin_n (b := 31) (by omega) (by decide)).trans ?_
    rw [show min (n + 1) 31 = n + 1 by omega]
  rw [Tk_add_e _ _ _ _ _ _ _ _ h.kd, h.2.2.1, nI_1, em, mI_u, gI_w, nI_pred, Tk_set_s z1 (by omega) (by omega), bV_y]
theorem Cn.hr {v : eV} {p : Nat} {m m' : eM} (h : Cn v p m) (f : Fr sHr m m') : Cn v p m' := by
  have hp := h.2.2.2
  exact ⟨h.1.fr f (fun j => sHr_n (by omega) (by omega) (by omega) (by omega)) (fun a j x y => sHr_n (by omega) (by omega) (by omega) (by omega)) (fun a j x y => sHr_n (by unfold pOK at hp; omega) (by unfold pOK at hp; omega) (by unfold pOK at hp; omega) (by unfold pOK at hp; omega)), h.2.1.fr f (fun j => rfl) (fun j => rfl), f.sk h.2.2.1, hp⟩
theorem Cn.pc {v : eV} (hv : Va v) (hN : ∀ j, j < nF v → nam v j < 27 ^ 8) {p : Nat} {m : eM} (h : Cn v p m) : PaC p (nam v) (nF v) m := by
  have hf := hv.f
  obtain ⟨a1, a2, a3, a4, -⟩ := h.p
  exact ⟨⟨a1, a2.1, h.2.2.2⟩, a3.1, hf, fun j hj => ⟨(a4 j hj).1, hN j hj⟩⟩
theorem LC_tell_t {v : eV} {p : Nat} {m : eM} (hv : Va v) (h : Cn v p m) {t n : Nat} (hz : TkZ t n m) (hn : n < 31) {q mn : Nat} (hq : q < nP v) {D : Nat} (hD : 4 ≤ D) (S : Int64) : LC_tell D 3 t (nI q) (nI mn) S m = yV (wrT t n (nI q) (nI mn) S (lieG v S 0 q) (lieG v S 1 q) (sI m t 5 (nI (n + 1)))) := by
  obtain ⟨d, rfl⟩ : ∃ d, D = d + 3 := ⟨D - 3, by omega⟩
  have l0 : Pa_lies (d + 2) p S (0 : Int32) (nI q) m = _ := Pa_lies_s hv h.p h.ss (show 2 ≤ d + 2 by omega) S hq (show 0 < 2 by decide)
  have l1 : Pa_lies (d + 2) p S (1 : Int32) (nI q) m = _ := Pa_lies_s hv h.p h.ss (show 2 ≤ d + 2 by omega) S hq (show 1 < 2 by decide)
  rw [LC_tell_e _ _ _ _ _ _ _ kd_3 hz.kd, rf_3_2 h.sk, bR_s, gd9, h.r0, bR_s, h.gp, l0, bL_y, l1, bL_y, Tk_add_s hz hn (by omega), bV_y]
theorem LC_hear_s {v : eV} (hv : Va v) (hN : ∀ j, j < nF v → nam v j < 27 ^ 8) {p : Nat} {m : eM} (h : Cn v p m) {s : eTp} (ht : TpM 4 5 s m) {t n : Nat} (hT : t = 22 ∨ t = 28) (hz : TkZ t n m) (hn : n < 31) {q mn : Nat} (hq : q < nP v) {D : Nat} (hD : 70 ≤ D) : (∀ e, lyV s v = .inl e → ∃ m', Fr sHr m m' ∧ LC_hear D 3 t (nI q) (nI mn) m = yI (nI e) m') ∧ (∀ f S, lyV s v = .inr (f, S) → ∃ m1, Fr sHr m m1 ∧ LC_hear D 3 t (nI q) (nI mn) m = yI 0 (wrT t n (nI q) (nI mn) S (if f = 1 then 0 else lieG v S 0 q) (if f = 1 then 0 else lieG v S 1 q) (sI m1 t 5 (nI (n + 1))))) := by
  obtain ⟨d, rfl⟩ : ∃ d, D = d + 1 := ⟨D - 1, by omega⟩
  have hf := hv.f
  have nt : ∀ {a : Nat}, t ≤ a → a ≤ t + 5 → ∀ j, sHr a j = false := fun h1 h2 j => sHr_n (by omega) (by omega) (by omega) (by omega)
  obtain ⟨m1, f1, e1, k1, h8, t1⟩ := Ta_open_s (D := d) (by omega) h.sk ht
  have c1 := h.hr f1.foH
  have z1 : TkZ t n m1 := hz.fr f1.foH (nt (Nat.le_refl _) (by omega) _)
  have hk := tK_le s 0
  have g4 : ∀ o, gd 4 8 o = o := fun o => gd_y kd_4
  have g6 : ∀ o, gd 6 2 o = o := fun o => gd_y kd_6
  have hE := Fo_read_s (s := s) (p := p) (N := nam v) (n := nF v) (D := d) (by omega) (b := 0) (Nat.zero_le _) ⟨⟨c1.sk, c1.ss, t1⟩, k1, h8, c1.pc hv hN⟩
  rw [LC_hear_e _ _ _ _ _ _ kd_3 hz.kd, rf_3_0 h.sk, bR_s, g4, e1, bV_y, rf_3_0 c1.sk, bR_s, g4, Ta_kind_s k1, bI_y]
  by_cases z : tK s 0 = 0
  · rw [if_neg (by rw [z]; exact fun q => q rfl), Tk_add_s z1 hn (by omega), bV_y, lyV_q z]
    refine ⟨fun e q => (by cases q), fun f S q => ?_⟩
    cases q
    exact ⟨m1, f1.foH, rfl⟩
  · rw [if_pos (by rw [show (0 : Int32) = nI 0 from rfl, n_eq (by omega) (by omega)]; exact z), rf_3_1 c1.sk, bR_s, rf_3_0 c1.sk, bR_s, rf_3_2 c1.sk, bR_s, gd9, c1.r0, bR_s, g6]
    cases y : pE s (nam v) (nF v) 0 with
    | inl e0 =>
      obtain ⟨m2, f2, e2, r2⟩ := hE.1 e0 y
      rw [e2, bI_y, if_pos rfl, rf_3_0 (f2.sk c1.sk), bR_s, g4, Ta_fault_e _ _ _ kd_4, bI_y, r2, lyV_e z y]
      exact ⟨fun e q => (by cases q; exact ⟨m2, (f1.tr f2).foH, rfl⟩), fun f S q => (by cases q)⟩
    | inr g =>
      obtain ⟨m2, f2, e2, q2⟩ := hE.2 g y
      have c2 := c1.hr f2.foH
      rw [e2, bI_y, if_neg ten1, rf_3_0 c2.sk, bR_s, g4, Ta_ends_s (by omega) q2.2.1 q2.2.2.1, lyV_s z y]
      by_cases x : tK s g.1 = 0
      · have hA : StA g.2.1 0 g.2.1.length m2 := by
          obtain ⟨-, -, -, ⟨l1, l2⟩, -⟩ := q2
          have hl := (pE_G s (nam v) (nF v) 0 g (Nat.zero_le _) y)
          have h1000 : s.1 ≤ 1000 := ht.2.1
          have := (tB_le hl.1).2
          exact ⟨⟨c2.sk, l1, by omega, by omega⟩, fun k hk => by rw [Nat.zero_add]; exact l2 k hk⟩
        obtain ⟨m3, f3, e3⟩ := Fo_worldsSo_s (pE_C ht.2.2.2 hf y) (by decide) (D := d) (by omega) hf hA
        have c3 := c2.hr f3.fwH
        have z3 : TkZ t n m3 := (z1.fr f2.foH (nt (Nat.le_refl _) (by omega) _)).fr f3.fwH (nt (Nat.le_refl _) (by omega) _)
        rw [if_pos x, if_pos x, bI_y, if_pos ten1, rf_3_1 c2.sk, bR_s, rf_3_2 c2.sk, bR_s, gd9, c2.r0, bR_s, c2.gp, Pa_facts_s c2.p, bI_y, g6, e3, bL_y, LC_tell_t hv c3 z3 hn hq (by omega), bV_y]
        refine ⟨fun e q => (by cases q), fun f S q => ?_⟩
        cases q
        exact ⟨m3, (f1.tr f2).foH.tr f3.fwH, rfl⟩
      · rw [if_neg x, if_neg x, bI_y, if_neg (fun q => q rfl)]
        have s3 : Sk (sI m2 4 8 (nI (er s g.1 1))) := c2.sk
        rw [rf_3_0 s3, bR_s, g4, Ta_fault_e _ _ _ kd_4, bI_y, gI_w]
        refine ⟨fun e q => ?_, fun f S q => (by cases q)⟩
        cases q
        exact ⟨_, (f1.tr f2).foH.i rfl, rfl⟩
