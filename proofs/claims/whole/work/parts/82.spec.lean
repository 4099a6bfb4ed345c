/-! ===== an E, read as a function of the tape ===== -/
/-- behind it, the class' steps, the reference's codes, its value in each world -/
abbrev xG : Type := Nat × List Int32 × List Nat × (Nat → Int32)
abbrev xQ : Type := Sum Nat xG
abbrev xP : Type := Nat → xQ
abbrev xOp : Type := Int32 × Nat × (Int32 → Int32 → Int32)
def opG (o : xOp) (g h : xG) : xG := (h.1, g.2.1 ++ (h.2.1 ++ [o.1]), g.2.2.1 ++ (o.2.1 :: h.2.2.1), fun w => o.2.2 (g.2.2.2 w) (h.2.2.2 w))
def pLp (s : eTp) (sub : xP) (op : Nat → Option xOp) : Nat → xG → xQ
  | 0, g => .inr g
  | k + 1, g => match op g.1 with
    | none => .inr g
    | some o => match sub (tX s g.1) with
      | .inl e => .inl e
      | .inr h => pLp s sub op k (opG o g h)
def pBn (s : eTp) (sub : xP) (op : Nat → Option xOp) (F : Nat) : xP := fun b => match sub b with
  | .inl e => .inl e
  | .inr g => pLp s sub op F g
theorem pLp_n {s : eTp} {sub : xP} {op : Nat → Option xOp} {k : Nat} {g : xG} (h : op g.1 = none) : pLp s sub op k g = .inr g := by
  cases k with
  | zero => rfl
  | succ k => unfold pLp; rw [h]
theorem pLp_e {s : eTp} {sub : xP} {op : Nat → Option xOp} {k : Nat} {g : xG} {o : xOp} {e : Nat} (h : op g.1 = some o) (h2 : sub (tX s g.1) = .inl e) : pLp s sub op (k + 1) g = .inl e := by
  unfold pLp; rw [h]; dsimp only; rw [h2]
theorem pLp_s {s : eTp} {sub : xP} {op : Nat → Option xOp} {k : Nat} {g x : xG} {o : xOp} (h : op g.1 = some o) (h2 : sub (tX s g.1) = .inr x) : pLp s sub op (k + 1) g = pLp s sub op k (opG o g x) := by
  rw [pLp, h]; dsimp only; rw [h2]
theorem pBn_e {s : eTp} {sub : xP} {op : Nat → Option xOp} {F b e : Nat} (h : sub b = .inl e) : pBn s sub op F b = .inl e := by
  unfold pBn; rw [h]
theorem pBn_s {s : eTp} {sub : xP} {op : Nat → Option xOp} {F b : Nat} {g : xG} (h : sub b = .inr g) : pBn s sub op F b = pLp s sub op F g := by
  unfold pBn; rw [h]
theorem pBn_i {s : eTp} {sub : xP} {op : Nat → Option xOp} {F b : Nat} {h : xG} (hp : pBn s sub op F b = .inr h) : ∃ g, sub b = .inr g ∧ pLp s sub op F g = .inr h := by
  cases z : sub b with
  | inl e => rw [pBn_e z] at hp; cases hp
  | inr g => rw [pBn_s z] at hp; exact ⟨g, rfl, hp⟩
theorem pLp_ind {s : eTp} {sub : xP} {op : Nat → Option xOp} {A B : xG → Prop} (hsub : ∀ b h, sub b = .inr h → B h) (hop : ∀ b o g h, op b = some o → A g → B h → A (opG o g h)) : ∀ k g h, A g → pLp s sub op k g = .inr h → A h
  | 0, g, h, ha, hp => by cases hp; exact ha
  | k + 1, g, h, ha, hp => by
    cases z : op g.1 with
    | none => rw [pLp_n z] at hp; cases hp; exact ha
    | some o =>
      cases y : sub (tX s g.1) with
      | inl e => rw [pLp_e z y] at hp; cases hp
      | inr x =>
        rw [pLp_s z y] at hp
        exact pLp_ind hsub hop k _ h (hop _ o g x z ha (hsub _ x y)) hp
theorem pBn_ind {s : eTp} {sub : xP} {op : Nat → Option xOp} {A B : xG → Prop} (hsub : ∀ b h, sub b = .inr h → B h) (hA : ∀ h, B h → A h) (hop : ∀ b o g h, op b = some o → A g → B h → A (opG o g h)) {F b : Nat} {h : xG} (hp : pBn s sub op F b = .inr h) : A h := by
  obtain ⟨g, h1, h2⟩ := pBn_i hp
  exact pLp_ind hsub hop F g h (hA g (hsub b g h1)) h2
def fNot (a : Int32) : Int32 := if a = 0 then 1 else 0
def fAnd (a b : Int32) : Int32 := if a = 0 then 0 else if b = 0 then 0 else 1
def fOr (a b : Int32) : Int32 := if a = 0 then (if b = 0 then 0 else 1) else 1
def fLt (a b : Int32) : Int32 := if b ≤ a then 0 else 1
def fEq (a b : Int32) : Int32 := if a = b then 1 else 0
def fAdd (a b : Int32) : Int32 := a + b
def fSub (a b : Int32) : Int32 := a - b
def fMul (a b : Int32) : Int32 := a * b
def opM (s : eTp) (b : Nat) : Option xOp := if tkS s b 42 = true then some (-17, 22, fMul) else none
def opA (s : eTp) (b : Nat) : Option xOp := if tkS s b 43 = true then some (-15, 20, fAdd) else if tkS s b 45 = true then some (-16, 21, fSub) else none
def opC (s : eTp) (b : Nat) : Option xOp := if tkS s b 60 = true then some (-13, 24, fLt) else if tkS s b 61 = true then some (-14, 25, fEq) else none
def opL (s : eTp) (b : Nat) : Option xOp := if tkW s b 1111 = true then some (-11, 26, fAnd) else if tkW s b 423 = true then some (-12, 27, fOr) else none
def pPr (s : eTp) (P : xP) : xP := pBn s P (opM s) 1000
def pSm (s : eTp) (P : xP) : xP := pBn s (pPr s P) (opA s) 1000
def pTe (s : eTp) (P : xP) : xP := pBn s (pSm s P) (opC s) 1
def pTs (s : eTp) (P : xP) : xP := pBn s (pTe s P) (opL s) 1000
/-- a PART, with room for so many not and ( ) round it still -/
def pPt (s : eTp) (N : Nat → Nat) (n : Nat) : Nat → xP
  | 0 => fun b => if tkN s b = true then (match fnd N n (tW s b) with
      | none => .inl (er s b 2)
      | some _ => .inl (er s b 5)) else if tkW s b 10631 = true ∨ tkS s b 40 = true ∨ tK s b = 3 then .inl (er s b 5) else .inl (er s b 1)
  | r + 1 => fun b => if tkN s b = true then (match fnd N n (tW s b) with
      | none => .inl (er s b 2)
      | some f => .inr (tX s b, [-1 - nI f], [1 + f], fun w => bb (w.testBit f))) else if tkW s b 10631 = true then (match pPt s N n r (tX s b) with
      | .inl e => .inl e
      | .inr g => .inr (g.1, g.2.1 ++ [-10], 30 :: g.2.2.1, fun w => fNot (g.2.2.2 w))) else if tkS s b 40 = true then (match pTs s (pPt s N n r) (tX s b) with
      | .inl e => .inl e
      | .inr g => if tkS s g.1 41 = true then .inr (tX s g.1, g.2.1, 28 :: (g.2.2.1 ++ [29]), g.2.2.2) else .inl (er s g.1 1)) else if tK s b = 3 then .inr (tX s b, [nI (tN s b)], [100 + tN s b], fun _ => nI (tN s b)) else .inl (er s b 1)
/-- a whole E -/
def pE (s : eTp) (N : Nat → Nat) (n : Nat) : xP := pTs s (pPt s N n 5)
/-! its cases -/
theorem pPt_0 {s : eTp} {N : Nat → Nat} {n b : Nat} : ∃ e, pPt s N n 0 b = .inl e := by
  unfold pPt
  split
  · split
    · exact ⟨_, rfl⟩
    · exact ⟨_, rfl⟩
  · split
    · exact ⟨_, rfl⟩
    · exact ⟨_, rfl⟩
theorem pPt_u {s : eTp} {N : Nat → Nat} {n b r : Nat} (h : tkN s b = true) (h2 : fnd N n (tW s b) = none) : pPt s N n r b = .inl (er s b 2) := by
  cases r with
  | zero => unfold pPt; rw [if_pos h, h2]
  | succ r => unfold pPt; rw [if_pos h, h2]
theorem pPt_f {s : eTp} {N : Nat → Nat} {n b r f : Nat} (h : tkN s b = true) (h2 : fnd N n (tW s b) = some f) : pPt s N n (r + 1) b = .inr (tX s b, [-1 - nI f], [1 + f], fun w => bb (w.testBit f)) := by
  unfold pPt; rw [if_pos h, h2]
theorem pPt_f0 {s : eTp} {N : Nat → Nat} {n b f : Nat} (h : tkN s b = true) (h2 : fnd N n (tW s b) = some f) : pPt s N n 0 b = .inl (er s b 5) := by
  unfold pPt; rw [if_pos h, h2]
theorem pPt_50 {s : eTp} {N : Nat → Nat} {n b : Nat} (h : ¬ tkN s b = true) (h2 : tkW s b 10631 = true ∨ tkS s b 40 = true ∨ tK s b = 3) : pPt s N n 0 b = .inl (er s b 5) := by
  unfold pPt; rw [if_neg h, if_pos h2]
theorem pPt_1 {s : eTp} {N : Nat → Nat} {n b r : Nat} (h : ¬ tkN s b = true) (h1 : ¬ tkW s b 10631 = true) (h2 : ¬ tkS s b 40 = true) (h3 : ¬ tK s b = 3) : pPt s N n r b = .inl (er s b 1) := by
  cases r with
  | zero => unfold pPt; rw [if_neg h, if_neg (fun q => by rcases q with q | q | q <;> contradiction)]
  | succ r => unfold pPt; rw [if_neg h, if_neg h1, if_neg h2, if_neg h3]
theorem pPt_3 {s : eTp} {N : Nat → Nat} {n b r : Nat} (h : ¬ tkN s b = true) (h1 : ¬ tkW s b 10631 = true) (h2 : ¬ tkS s b 40 = true) (h3 : tK s b = 3) : pPt s N n (r + 1) b = .inr (tX s b, [nI (tN s b)], [100 + tN s b], fun _ => nI (tN s b)) := by
  unfold pPt; rw [if_neg h, if_neg h1, if_neg h2, if_pos h3]
theorem pPt_ne {s : eTp} {N : Nat → Nat} {n b r e : Nat} (h : ¬ tkN s b = true) (h1 : tkW s b 10631 = true) (h2 : pPt s N n r (tX s b) = .inl e) : pPt s N n (r + 1) b = .inl e := by
  rw [pPt]; dsimp only; rw [if_neg h, if_pos h1, h2]
theorem pPt_ns {s : eTp} {N : Nat → Nat} {n b r : Nat} {g : xG} (h : ¬ tkN s b = true) (h1 : tkW s b 10631 = true) (h2 : pPt s N n r (tX s b) = .inr g) : pPt s N n (r + 1) b = .inr (g.1, g.2.1 ++ [-10], 30 :: g.2.2.1, fun w => fNot (g.2.2.2 w)) := by
  rw [pPt]; dsimp only; rw [if_neg h, if_pos h1, h2]
theorem pPt_ce {s : eTp} {N : Nat → Nat} {n b r e : Nat} (h : ¬ tkN s b = true) (h1 : ¬ tkW s b 10631 = true) (h2 : tkS s b 40 = true) (h3 : pTs s (pPt s N n r) (tX s b) = .inl e) : pPt s N n (r + 1) b = .inl e := by
  rw [pPt]; dsimp only; rw [if_neg h, if_neg h1, if_pos h2, h3]
theorem pPt_cs {s : eTp} {N : Nat → Nat} {n b r : Nat} {g : xG} (h : ¬ tkN s b = true) (h1 : ¬ tkW s b 10631 = true) (h2 : tkS s b 40 = true) (h3 : pTs s (pPt s N n r) (tX s b) = .inr g) : pPt s N n (r + 1) b = if tkS s g.1 41 = true then .inr (tX s g.1, g.2.1, 28 :: (g.2.2.1 ++ [29]), g.2.2.2) else .inl (er s g.1 1) := by
  rw [pPt]; dsimp only; rw [if_neg h, if_neg h1, if_pos h2, h3]
/-- an E's PARTS by cases: for what is proved of what was read -/
theorem pPt_i {s : eTp} {N : Nat → Nat} {n b r : Nat} {x : xG} (h : pPt s N n (r + 1) b = .inr x) : (∃ f, tkN s b = true ∧ fnd N n (tW s b) = some f ∧ x = (tX s b, [-1 - nI f], [1 + f], fun w => bb (w.testBit f))) ∨ (∃ g, tkW s b 10631 = true ∧ pPt s N n r (tX s b) = .inr g ∧ x = (g.1, g.2.1 ++ [-10], 30 :: g.2.2.1, fun w => fNot (g.2.2.2 w))) ∨ (∃ g, tkS s b 40 = true ∧ pTs s (pPt s N n r) (tX s b) = .inr g ∧ tkS s g.1 41 = true ∧ x = (tX s g.1, g.2.1, 28 :: (g.2.2.1 ++ [29]), g.2.2.2)) ∨ (tK s b = 3 ∧ x = (tX s b, [nI (tN s b)], [100 + tN s b], fun _ => nI (tN s b))) := by
  by_cases z : tkN s b = true
  · cases y : fnd N n (tW s b) with
    | none => rw [pPt_u z y] at h; cases h
    | some f => rw [pPt_f z y] at h; cases h; exact Or.inl ⟨f, z, rfl, rfl⟩
  · by_cases z1 : tkW s b 10631 = true
    · cases y : pPt s N n r (tX s b) with
      | inl e => rw [pPt_ne z z1 y] at h; cases h
      | inr g => rw [pPt_ns z z1 y] at h; cases h; exact Or.inr (Or.inl ⟨g, z1, rfl, rfl⟩)
    · by_cases z2 : tkS s b 40 = true
      · cases y : pTs s (pPt s N n r) (tX s b) with
        | inl e => rw [pPt_ce z z1 z2 y] at h; cases h
        | inr g =>
          rw [pPt_cs z z1 z2 y] at h
          by_cases z3 : tkS s g.1 41 = true
          · rw [if_pos z3] at h; cases h; exact Or.inr (Or.inr (Or.inl ⟨g, z2, rfl, z3, rfl⟩))
          · rw [if_neg z3] at h; cases h
      · by_cases z3 : tK s b = 3
        · rw [pPt_3 z z1 z2 z3] at h; cases h; exact Or.inr (Or.inr (Or.inr ⟨z3, rfl⟩))
        · rw [pPt_1 z z1 z2 z3] at h; cases h
/-! how far it reads -/
theorem tk_nx {s : eTp} {b : Nat} (hb : b ≤ s.1) (hk : tK s b ≠ 0) : tX s b ≤ s.1 ∧ tB s b + 1 ≤ tB s (tX s b) := by
  have h1 := tX_le hb
  have h2 := tX_lt hk
  have h3 := tB_le h1.2
  omega
/-- token by token -/
def pG (s : eTp) (P : xP) : Prop := ∀ b g, b ≤ s.1 → P b = .inr g → g.1 ≤ s.1 ∧ tB s b + 1 ≤ tB s g.1 ∧ tB s b + g.2.1.length ≤ tB s g.1 ∧ tB s b + g.2.2.1.length ≤ tB s g.1
def opK (s : eTp) (op : Nat → Option xOp) : Prop := ∀ b o, op b = some o → tK s b ≠ 0
theorem opM_k (s : eTp) : opK s (opM s) := fun b o h => by
  unfold opM at h
  split at h
  · rename_i q; have := (tkS_k q).1; omega
  · cases h
theorem opA_k (s : eTp) : opK s (opA s) := fun b o h => by
  unfold opA at h
  split at h
  · rename_i q; have := (tkS_k q).1; omega
  · split at h
    · rename_i q; have := (tkS_k q).1; omega
    · cases h
theorem opC_k (s : eTp) : opK s (opC s) := fun b o h => by
  unfold opC at h
  split at h
  · rename_i q; have := (tkS_k q).1; omega
  · split at h
    · rename_i q; have := (tkS_k q).1; omega
    · cases h
theorem opL_k (s : eTp) : opK s (opL s) := fun b o h => by
  unfold opL at h
  split at h
  · rename_i q; have := (tkW_k q).1; omega
  · split at h
    · rename_i q; have := (tkW_k q).1; omega
    · cases h
theorem opG_l {s : eTp} {b : Nat} {o : xOp} {g x : xG} (ho : tK s g.1 ≠ 0) (hg : g.1 ≤ s.1) (h1 : tB s b + 1 ≤ tB s g.1) (h2 : tB s b + g.2.1.length ≤ tB s g.1) (h3 : tB s b + g.2.2.1.length ≤ tB s g.1) (q2 : tB s (tX s g.1) + 1 ≤ tB s x.1) (q3 : tB s (tX s g.1) + x.2.1.length ≤ tB s x.1) (q4 : tB s (tX s g.1) + x.2.2.1.length ≤ tB s x.1) : tB s b + 1 ≤ tB s x.1 ∧ tB s b + (opG o g x).2.1.length ≤ tB s x.1 ∧ tB s b + (opG o g x).2.2.1.length ≤ tB s x.1 := by
  have k1 := tk_nx hg ho
  show _ ∧ tB s b + (g.2.1 ++ (x.2.1 ++ [o.1])).length ≤ _ ∧ tB s b + (g.2.2.1 ++ (o.2.1 :: x.2.2.1)).length ≤ _
  rw [List.length_append, List.length_append, List.length_append, List.length_cons, List.length_cons, List.length_nil]
  omega
theorem pLp_G {s : eTp} {sub : xP} {op : Nat → Option xOp} (hs : pG s sub) (ho : opK s op) {b : Nat} : ∀ k g h, g.1 ≤ s.1 → tB s b + 1 ≤ tB s g.1 → tB s b + g.2.1.length ≤ tB s g.1 → tB s b + g.2.2.1.length ≤ tB s g.1 → pLp s sub op k g = .inr h → h.1 ≤ s.1 ∧ tB s b + 1 ≤ tB s h.1 ∧ tB s b + h.2.1.length ≤ tB s h.1 ∧ tB s b + h.2.2.1.length ≤ tB s h.1
  | 0, g, h, h1, h2, h3, h4, hp => by cases hp; exact ⟨h1, h2, h3, h4⟩
  | k + 1, g, h, h1, h2, h3, h4, hp => by
    cases z : op g.1 with
    | none => rw [pLp_n z] at hp; cases hp; exact ⟨h1, h2, h3, h4⟩
    | some o =>
      have hk := ho _ _ z
      cases y : sub (tX s g.1) with
      | inl e => rw [pLp_e z y] at hp; cases hp
      | inr x =>
        rw [pLp_s z y] at hp
        obtain ⟨q1, q2, q3, q4⟩ := hs _ x (tk_nx h1 hk).1 y
        obtain ⟨r1, r2, r3⟩ := opG_l (o := o) hk h1 h2 h3 h4 q2 q3 q4
        exact pLp_G hs ho k (opG o g x) h q1 r1 r2 r3 hp
theorem pBn_G {s : eTp} {sub : xP} {op : Nat → Option xOp} (hs : pG s sub) (ho : opK s op) (F : Nat) : pG s (pBn s sub op F) := fun b h hb hp => by
  obtain ⟨g, h1, h2⟩ := pBn_i hp
  obtain ⟨q1, q2, q3, q4⟩ := hs b g hb h1
  exact pLp_G hs ho F g h q1 q2 q3 q4 h2
theorem pPr_G {s : eTp} {P : xP} (h : pG s P) : pG s (pPr s P) := pBn_G h (opM_k s) 1000
theorem pSm_G {s : eTp} {P : xP} (h : pG s P) : pG s (pSm s P) := pBn_G (pPr_G h) (opA_k s) 1000
theorem pTe_G {s : eTp} {P : xP} (h : pG s P) : pG s (pTe s P) := pBn_G (pSm_G h) (opC_k s) 1
theorem pTs_G {s : eTp} {P : xP} (h : pG s P) : pG s (pTs s P) := pBn_G (pTe_G h) (opL_k s) 1000
theorem pPt_G (s : eTp) (N : Nat → Nat) (n : Nat) : ∀ r, pG s (pPt s N n r)
  | 0 => fun b g hb hp => by
    obtain ⟨e, he⟩ := pPt_0 (s := s) (N := N) (n := n) (b := b)
    rw [he] at hp; cases hp
  | r + 1 => fun b g hb hp => by
    rcases pPt_i hp with ⟨f, h1, h2, rfl⟩ | ⟨g', h1, h2, rfl⟩ | ⟨g', h1, h2, h3, rfl⟩ | ⟨h1, rfl⟩
    · have hk : tK s b ≠ 0 := by have := (tkN_k h1).1; omega
      have := tk_nx hb hk
      exact ⟨this.1, this.2, this.2, this.2⟩
    · have hk : tK s b ≠ 0 := by have := (tkW_k h1).1; omega
      have k1 := tk_nx hb hk
      obtain ⟨q1, q2, q3, q4⟩ := pPt_G s N n r _ _ k1.1 h2
      refine ⟨q1, ?_, ?_, ?_⟩
      · show tB s b + 1 ≤ tB s g'.1; omega
      · show tB s b + (g'.2.1 ++ [-10]).length ≤ tB s g'.1
        rw [List.length_append, List.length_cons, List.length_nil]; omega
      · show tB s b + (30 :: g'.2.2.1).length ≤ tB s g'.1
        rw [List.length_cons]; omega
    · have hk : tK s b ≠ 0 := by have := (tkS_k h1).1; omega
      have k1 := tk_nx hb hk
      obtain ⟨q1, q2, q3, q4⟩ := pTs_G (pPt_G s N n r) _ _ k1.1 h2
      have hk2 : tK s g'.1 ≠ 0 := by have := (tkS_k h3).1; omega
      have k2 := tk_nx q1 hk2
      refine ⟨k2.1, ?_, ?_, ?_⟩
      · show tB s b + 1 ≤ tB s (tX s g'.1); omega
      · show tB s b + g'.2.1.length ≤ tB s (tX s g'.1); omega
      · show tB s b + (28 :: (g'.2.2.1 ++ [29])).length ≤ tB s (tX s g'.1)
        rw [List.length_cons, List.length_append, List.length_cons, List.length_nil]; omega
    · have hk : tK s b ≠ 0 := by omega
      have := tk_nx hb hk
      exact ⟨this.1, this.2, this.2, this.2⟩
/-- where it stops -/
theorem pLp_stop {s : eTp} {sub : xP} {op : Nat → Option xOp} (hs : pG s sub) (ho : opK s op) : ∀ k g h, g.1 ≤ s.1 → s.1 ≤ tB s g.1 + k → pLp s sub op k g = .inr h → op h.1 = none
  | 0, g, h, h1, h2, hp => by
    cases hp
    cases z : op g.1 with
    | none => rfl
    | some o => have := tX_lt (ho _ _ z); omega
  | k + 1, g, h, h1, h2, hp => by
    cases z : op g.1 with
    | none => rw [pLp_n z] at hp; cases hp; exact z
    | some o =>
      have hk := ho _ _ z
      cases y : sub (tX s g.1) with
      | inl e => rw [pLp_e z y] at hp; cases hp
      | inr x =>
        rw [pLp_s z y] at hp
        have k1 := tk_nx h1 hk
        obtain ⟨q1, q2, -, -⟩ := hs _ x k1.1 y
        exact pLp_stop hs ho k (opG o g x) h q1 (show s.1 ≤ tB s x.1 + k by omega) hp
theorem pBn_stop {s : eTp} {sub : xP} {op : Nat → Option xOp} (hs : pG s sub) (ho : opK s op) {F b : Nat} {h : xG} (hF : s.1 ≤ F) (hb : b ≤ s.1) (hp : pBn s sub op F b = .inr h) : op h.1 = none := by
  obtain ⟨g, h1, h2⟩ := pBn_i hp
  exact pLp_stop hs ho F g h (hs b g hb h1).1 (by omega) h2
/-- what is so behind what it takes is so behind it -/
theorem pLp_at {s : eTp} {sub : xP} {op : Nat → Option xOp} (hs : pG s sub) (ho : opK s op) {A : Nat → Prop} (hA : ∀ b g, b ≤ s.1 → sub b = .inr g → A g.1) : ∀ k g h, g.1 ≤ s.1 → A g.1 → pLp s sub op k g = .inr h → A h.1
  | 0, g, h, h1, h2, hp => by cases hp; exact h2
  | k + 1, g, h, h1, h2, hp => by
    cases z : op g.1 with
    | none => rw [pLp_n z] at hp; cases hp; exact h2
    | some o =>
      cases y : sub (tX s g.1) with
      | inl e => rw [pLp_e z y] at hp; cases hp
      | inr x =>
        rw [pLp_s z y] at hp
        have k1 := tk_nx h1 (ho _ _ z)
        exact pLp_at hs ho hA k (opG o g x) h (hs _ x k1.1 y).1 (hA _ x k1.1 y) hp
theorem pBn_at {s : eTp} {sub : xP} {op : Nat → Option xOp} (hs : pG s sub) (ho : opK s op) {A : Nat → Prop} (hA : ∀ b g, b ≤ s.1 → sub b = .inr g → A g.1) {F b : Nat} {h : xG} (hb : b ≤ s.1) (hp : pBn s sub op F b = .inr h) : A h.1 := by
  obtain ⟨g, h1, h2⟩ := pBn_i hp
  exact pLp_at hs ho hA F g h (hs b g hb h1).1 (hA b g hb h1) h2
theorem pPr_stop {s : eTp} {P : xP} (hs : pG s P) (h1000 : s.1 ≤ 1000) {b : Nat} {g : xG} (hb : b ≤ s.1) (hp : pPr s P b = .inr g) : opM s g.1 = none := pBn_stop hs (opM_k s) h1000 hb hp
theorem pSm_stop {s : eTp} {P : xP} (hs : pG s P) (h1000 : s.1 ≤ 1000) {b : Nat} {g : xG} (hb : b ≤ s.1) (hp : pSm s P b = .inr g) : opM s g.1 = none ∧ opA s g.1 = none :=
  ⟨pBn_at (A := fun b => opM s b = none) (pPr_G hs) (opA_k s) (fun _ _ q1 q2 => pPr_stop hs h1000 q1 q2) hb hp, pBn_stop (pPr_G hs) (opA_k s) h1000 hb hp⟩
theorem pTe_stop {s : eTp} {P : xP} (hs : pG s P) (h1000 : s.1 ≤ 1000) {b : Nat} {g : xG} (hb : b ≤ s.1) (hp : pTe s P b = .inr g) : opM s g.1 = none ∧ opA s g.1 = none := pBn_at (A := fun b => opM s b = none ∧ opA s b = none) (pSm_G hs) (opC_k s) (fun _ _ q1 q2 => pSm_stop hs h1000 q1 q2) hb hp
theorem pTs_stop {s : eTp} {P : xP} (hs : pG s P) (h1000 : s.1 ≤ 1000) {b : Nat} {g : xG} (hb : b ≤ s.1) (hp : pTs s P b = .inr g) : opM s g.1 = none ∧ opA s g.1 = none ∧ opL s g.1 = none :=
  ⟨(pBn_at (A := fun b => opM s b = none ∧ opA s b = none) (pTe_G hs) (opL_k s) (fun _ _ q1 q2 => pTe_stop hs h1000 q1 q2) hb hp).1, (pBn_at (A := fun b => opM s b = none ∧ opA s b = none) (pTe_G hs) (opL_k s) (fun _ _ q1 q2 => pTe_stop hs h1000 q1 q2) hb hp).2, pBn_stop (pTe_G hs) (opL_k s) h1000 hb hp⟩
/-! it is of the first n facts alone -/
def vD (n : Nat) (g : xG) : Prop := ∀ w w', (∀ f, f < n → w.testBit f = w'.testBit f) → g.2.2.2 w = g.2.2.2 w'
theorem vD_op {n : Nat} {o : xOp} {g h : xG} (h1 : vD n g) (h2 : vD n h) : vD n (opG o g h) := fun w w' q => by
  show o.2.2 _ _ = o.2.2 _ _
  rw [h1 w w' q, h2 w w' q]
theorem pTs_D {s : eTp} {n : Nat} {P : xP} (h : ∀ b g, P b = .inr g → vD n g) : ∀ b g, pTs s P b = .inr g → vD n g := fun b g hp =>
  pBn_ind (fun b g hp => pBn_ind (fun b g hp => pBn_ind (fun b g hp => pBn_ind h (fun _ q => q) (fun _ _ _ _ _ => vD_op) hp) (fun _ q => q) (fun _ _ _ _ _ => vD_op) hp) (fun _ q => q) (fun _ _ _ _ _ => vD_op) hp) (fun _ q => q) (fun _ _ _ _ _ => vD_op) hp
theorem pPt_D {s : eTp} {N : Nat → Nat} {n : Nat} : ∀ r b g, pPt s N n r b = .inr g → vD n g
  | 0, b, g, hp => by
    obtain ⟨e, he⟩ := pPt_0 (s := s) (N := N) (n := n) (b := b)
    rw [he] at hp; cases hp
  | r + 1, b, g, hp => by
    rcases pPt_i hp with ⟨f, h1, h2, rfl⟩ | ⟨g', h1, h2, rfl⟩ | ⟨g', h1, h2, h3, rfl⟩ | ⟨h1, rfl⟩
    · exact fun w w' q => by
        show bb _ = bb _
        rw [q f (fnd_lt h2)]
    · exact fun w w' q => by
        show fNot _ = fNot _
        rw [pPt_D r _ g' h2 w w' q]
    · exact fun w w' q => pTs_D (pPt_D r) _ g' h2 w w' q
    · exact fun w w' q => rfl
theorem pE_D {s : eTp} {N : Nat → Nat} {n b : Nat} {g : xG} (h : pE s N n b = .inr g) : vD n g := pTs_D (pPt_D 5) b g h
theorem pE_G (s : eTp) (N : Nat → Nat) (n : Nat) : pG s (pE s N n) := pTs_G (pPt_G s N n 5)
