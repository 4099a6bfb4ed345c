/-! ===== what the codes of an E leave behind ===== -/
def sPt (dep e a j : Nat) : Bool := decide (225 ≤ a ∧ a ≤ 233 ∧ dep < j) || decide (a = 231 ∧ j = e)
theorem sPt_n {dep e a j : Nat} (h1 : a < 225 ∨ 233 < a ∨ j ≤ dep) (h2 : a ≠ 231 ∨ j ≠ e) : sPt dep e a j = false := by
  unfold sPt
  rw [decide_eq_false (by omega), decide_eq_false (by omega)]; rfl
theorem sPt_t {dep e a j : Nat} (h : (225 ≤ a ∧ a ≤ 233 ∧ dep < j) ∨ (a = 231 ∧ j = e)) : sPt dep e a j = true := by
  unfold sPt
  rw [Bool.or_eq_true, decide_eq_true_iff, decide_eq_true_iff]; exact h
theorem sPt_i {dep e a j : Nat} (h : sPt dep e a j = false) : ¬ (225 ≤ a ∧ a ≤ 233 ∧ dep < j) ∧ ¬ (a = 231 ∧ j = e) := by
  unfold sPt at h
  rw [Bool.or_eq_false_iff, decide_eq_false_iff_not, decide_eq_false_iff_not] at h
  exact h
theorem Fr.ptW {dep lo : Nat} {m m' : eM} (f : Fr (sPt dep dep) m m') (h : lo ≤ 231) : Fr (sWk dep lo) m m' := f.up fun a j q => by
  have := sWk_i q
  exact sPt_n (by omega) (by omega)
theorem Fr.wkP {dep e lo : Nat} {m m' : eM} (f : Fr (sWk (dep + 1) lo) m m') : Fr (sPt dep e) m m' := f.up fun a j q => by
  have := sPt_i q
  exact sWk_n (by omega) (by omega)
theorem Fr.ptU {dep e : Nat} {m m' : eM} (f : Fr (sPt (dep + 1) e) m m') : Fr (sPt dep e) m m' := f.up fun a j q => by
  have := sPt_i q
  exact sPt_n (by omega) (by omega)
/-- the codes of a PART -/
def evP (r : Nat) (g : xG) : Prop := ∀ d dep i T w w4 w5 O m, 1 ≤ d → dep + r ≤ 5 → CdA g.2.2.1 i T w m → ByS O dep m → ∃ m' u4 u5, Fr (sPt dep (popD O dep)) m m' ∧ Mo_worked_14 (d + 1) 208 0 (nI dep) (nI i) w4 w5 m = Mo_worked_14 (d + 1) 208 0 (nI (popD O dep)) (nI (i + g.2.2.1.length)) u4 u5 m' ∧ gI m' 231 (popD O dep) = (if gI m 232 (popD O dep) = 0 then ngN (dep - popD O dep) (g.2.2.2 w) else gI m 231 (popD O dep) * ngN (dep - popD O dep) (g.2.2.2 w))
/-- the codes of more than a PART: from registers as A says, V tells the value -/
def evL (lo : Nat) (A : eM → Nat → Prop) (V : eM → Nat → Int32) (r : Nat) (g : xG) : Prop := ∀ d dep i T w w4 w5 O m, 1 ≤ d → dep + r ≤ 5 → popD O dep = dep → CdA g.2.2.1 i T w m → ByS O dep m → A m dep → ∃ m' u4 u5, Fr (sWk dep lo) m m' ∧ Mo_worked_14 (d + 1) 208 0 (nI dep) (nI i) w4 w5 m = Mo_worked_14 (d + 1) 208 0 (nI dep) (nI (i + g.2.2.1.length)) u4 u5 m' ∧ V m' dep = g.2.2.2 w
def aP (m : eM) (j : Nat) : Prop := gI m 232 j = 0
def aS (m : eM) (j : Nat) : Prop := gI m 232 j = 0 ∧ gI m 229 j = 0 ∧ gI m 230 j = 20
def aT (m : eM) (j : Nat) : Prop := aS m j ∧ gI m 228 j = 0
def aL (m : eM) (j : Nat) : Prop := aT m j ∧ gI m 226 j = 0
def vP (m : eM) (j : Nat) : Int32 := gI m 231 j
theorem ob_l (o : xOp) (g h : xG) : (opG o g h).2.2.1 = g.2.2.1 ++ (o.2.1 :: h.2.2.1) := rfl
theorem ob_v (o : xOp) (g h : xG) (w : Nat) : (opG o g h).2.2.2 w = o.2.2 (g.2.2.2 w) (h.2.2.2 w) := rfl
theorem ob_n (o : xOp) (g h : xG) (i : Nat) : i + (opG o g h).2.2.1.length = i + g.2.2.1.length + 1 + h.2.2.1.length := by
  rw [ob_l, List.length_append, List.length_cons]; omega
theorem evPr_b {r : Nat} {g : xG} (h : evP r g) : evL 231 aP vP r g := fun d dep i T w w4 w5 O m hd hr hO hC hB hA => by
  obtain ⟨m1, u4, u5, f1, e1, v1⟩ := h d dep i T w w4 w5 O m hd hr hC hB
  rw [hO] at f1 e1 v1
  refine ⟨m1, u4, u5, f1.ptW (Nat.le_refl _), e1, ?_⟩
  show gI m1 231 dep = _
  rw [v1, if_pos (show gI m 232 dep = 0 from hA), Nat.sub_self]
  rfl
theorem evPr_o {r : Nat} {o : xOp} {g h : xG} (ho : o.2.1 = 22 ∧ o.2.2 = fMul) (h1 : evL 231 aP vP r g) (h2 : evP r h) : evL 231 aP vP r (opG o g h) := fun d dep i T w w4 w5 O m hd hr hO hC hB hA => by
  rw [ob_l, ho.1] at hC
  obtain ⟨c1, c2⟩ := hC.ap
  obtain ⟨m1, u4, u5, f1, e1, v1⟩ := h1 d dep i T w w4 w5 O m hd hr hO c1 hB hA
  obtain ⟨c2, c3⟩ := (c2.wk f1).cons
  obtain ⟨x4, x5, e2⟩ := w22 (d := d) (w4 := u4) (w5 := u5) c2 (show dep < 7 by omega)
  have f2 : Fr (sWk dep 231) m1 (sI m1 232 dep 22) := Fr.rfl'.i (sWk_t (by omega))
  obtain ⟨m3, y4, y5, f3, e3, v3⟩ := h2 d dep _ T w x4 x5 O _ hd hr (c3.wk f2) ((hB.fr f1).fr f2)
  rw [hO] at f3 e3 v3
  refine ⟨m3, y4, y5, (f1.tr f2).tr (f3.ptW (Nat.le_refl _)), ?_, ?_⟩
  · rw [e1, e2, e3, ob_n]
  · show gI m3 231 dep = _
    rw [v3, gI_w, if_neg (by decide), gI_sI, if_neg (by omega), Nat.sub_self, ob_v, ho.2, show gI m1 231 dep = g.2.2.2 w from v1]
    rfl
theorem evSm_b {r : Nat} {g : xG} (h : evL 231 aP vP r g) : evL 229 aS sumV r g := fun d dep i T w w4 w5 O m hd hr hO hC hB hA => by
  obtain ⟨m1, u4, u5, f1, e1, v1⟩ := h d dep i T w w4 w5 O m hd hr hO hC hB hA.1
  refine ⟨m1, u4, u5, f1.wkU (by decide), e1, ?_⟩
  have v1 : gI m1 231 dep = g.2.2.2 w := v1
  unfold sumV
  rw [f1.1 230 dep (sWk_n (by omega) (by omega)), f1.1 229 dep (sWk_n (by omega) (by omega)), hA.2.2, if_neg (by decide), hA.2.1, v1]
  exact Int32.zero_add _
theorem sums_g {m : eM} {j : Nat} : gI (mSums m j) 229 j = sumV m j ∧ gI (mSums m j) 232 j = 0 ∧ ∀ a, a ≠ 229 → a ≠ 232 → gI (mSums m j) a j = gI m a j := by
  unfold mSums
  refine ⟨?_, gI_w _ _ _ _, fun a q1 q2 => ?_⟩
  · rw [gI_sI, if_neg (by omega), gI_w]
  · rw [gI_sI, if_neg (by omega), gI_sI, if_neg (by omega)]
theorem evSm_o {r : Nat} {o : xOp} {g h : xG} (ho : o.2.1 = 20 ∧ o.2.2 = fAdd ∨ o.2.1 = 21 ∧ o.2.2 = fSub) (h1 : evL 229 aS sumV r g) (h2 : evL 231 aP vP r h) : evL 229 aS sumV r (opG o g h) := fun d dep i T w w4 w5 O m hd hr hO hC hB hA => by
  rw [ob_l] at hC
  have hc : o.2.1 = 20 ∨ o.2.1 = 21 := ho.elim (fun q => Or.inl q.1) (fun q => Or.inr q.1)
  obtain ⟨c1, c2⟩ := hC.ap
  obtain ⟨m1, u4, u5, f1, e1, v1⟩ := h1 d dep i T w w4 w5 O m hd hr hO c1 hB hA
  obtain ⟨c2, c3⟩ := (c2.wk f1).cons
  obtain ⟨x4, x5, e2⟩ := w20 (d := d) hc (w4 := u4) (w5 := u5) c2 (show dep < 7 by omega)
  obtain ⟨g1, g2, g3⟩ := sums_g (m := m1) (j := dep)
  have f2 : Fr (sWk dep 229) m1 (sI (mSums m1 dep) 230 dep (nI o.2.1)) := (mSums_f m1 dep).i (sWk_t (by omega))
  obtain ⟨m3, y4, y5, f3, e3, v3⟩ := h2 d dep _ T w x4 x5 O _ hd hr hO (c3.wk f2) ((hB.fr f1).fr f2) (by
    show gI (sI (mSums m1 dep) 230 dep (nI o.2.1)) 232 dep = 0
    rw [gI_sI, if_neg (by omega), g2])
  have v3 : gI m3 231 dep = h.2.2.2 w := v3
  refine ⟨m3, y4, y5, (f1.tr f2).tr (f3.wkU (by decide)), ?_, ?_⟩
  · rw [e1, e2, e3, ob_n]
  · have r229 : gI (sI (mSums m1 dep) 230 dep (nI o.2.1)) 229 dep = sumV m1 dep := by rw [gI_sI, if_neg (by omega), g1]
    unfold sumV
    rw [f3.1 230 dep (sWk_n (by omega) (by omega)), f3.1 229 dep (sWk_n (by omega) (by omega)), gI_w, r229, v1, v3, ob_v]
    rcases ho with ⟨q1, q2⟩ | ⟨q1, q2⟩
    · rw [q1, q2, if_neg (by decide)]; rfl
    · rw [q1, q2, if_pos (by decide)]; rfl
theorem evTe_b {r : Nat} {g : xG} (h : evL 229 aS sumV r g) : evL 227 aT teV r g := fun d dep i T w w4 w5 O m hd hr hO hC hB hA => by
  obtain ⟨m1, u4, u5, f1, e1, v1⟩ := h d dep i T w w4 w5 O m hd hr hO hC hB hA.1
  refine ⟨m1, u4, u5, f1.wkU (by decide), e1, ?_⟩
  unfold teV
  rw [f1.1 228 dep (sWk_n (by omega) (by omega)), hA.2, if_neg (by decide), if_neg (by decide), v1]
theorem evTe_o {r : Nat} {o : xOp} {g h : xG} (ho : o.2.1 = 24 ∧ o.2.2 = fLt ∨ o.2.1 = 25 ∧ o.2.2 = fEq) (h1 : evL 229 aS sumV r g) (h2 : evL 229 aS sumV r h) : evL 227 aT teV r (opG o g h) := fun d dep i T w w4 w5 O m hd hr hO hC hB hA => by
  rw [ob_l] at hC
  have hc : o.2.1 = 24 ∨ o.2.1 = 25 := ho.elim (fun q => Or.inl q.1) (fun q => Or.inr q.1)
  obtain ⟨c1, c2⟩ := hC.ap
  obtain ⟨m1, u4, u5, f1, e1, v1⟩ := h1 d dep i T w w4 w5 O m hd hr hO c1 hB hA.1
  obtain ⟨c2, c3⟩ := (c2.wk f1).cons
  obtain ⟨x4, x5, e2⟩ := w24 (d := d) hc (w4 := u4) (w5 := u5) c2 (show dep < 7 by omega)
  obtain ⟨g1, g2, g3⟩ := sums_g (m := m1) (j := dep)
  obtain ⟨m2, hm2⟩ : ∃ m2, m2 = sI (sI (sI (sI (mSums m1 dep) 227 dep (sumV m1 dep)) 228 dep (nI o.2.1)) 229 dep 0) 230 dep 20 := ⟨_, rfl⟩
  have f2 : Fr (sWk dep 227) m1 m2 := by
    rw [hm2]
    exact (((((mSums_f m1 dep).wkU (by decide)).i (sWk_t (by omega))).i (sWk_t (by omega))).i (sWk_t (by omega))).i (sWk_t (by omega))
  rw [← hm2] at e2
  have r227 : gI m2 227 dep = sumV m1 dep := by rw [hm2, gI_sI, if_neg (by omega), gI_sI, if_neg (by omega), gI_sI, if_neg (by omega), gI_w]
  have r228 : gI m2 228 dep = nI o.2.1 := by rw [hm2, gI_sI, if_neg (by omega), gI_sI, if_neg (by omega), gI_w]
  have r232 : gI m2 232 dep = 0 := by rw [hm2, gI_sI, if_neg (by omega), gI_sI, if_neg (by omega), gI_sI, if_neg (by omega), gI_sI, if_neg (by omega), g2]
  have r229 : gI m2 229 dep = 0 := by rw [hm2, gI_sI, if_neg (by omega), gI_w]
  have r230 : gI m2 230 dep = 20 := by rw [hm2, gI_w]
  obtain ⟨m3, y4, y5, f3, e3, v3⟩ := h2 d dep _ T w x4 x5 O m2 hd hr hO (c3.wk f2) ((hB.fr f1).fr f2) ⟨r232, r229, r230⟩
  refine ⟨m3, y4, y5, ((f1.wkU (by decide)).tr f2).tr (f3.wkU (by decide)), ?_, ?_⟩
  · rw [e1, e2, e3, ob_n]
  · unfold teV
    rw [f3.1 228 dep (sWk_n (by omega) (by omega)), f3.1 227 dep (sWk_n (by omega) (by omega)), r228, r227, v1, v3, ob_v]
    rcases ho with ⟨q1, q2⟩ | ⟨q1, q2⟩
    · rw [q1, q2, if_pos (by decide)]
    · rw [q1, q2, if_neg (by decide), if_pos (by decide)]
theorem evTs_b {r : Nat} {g : xG} (h : evL 227 aT teV r g) : evL 225 aL tsV r g := fun d dep i T w w4 w5 O m hd hr hO hC hB hA => by
  obtain ⟨m1, u4, u5, f1, e1, v1⟩ := h d dep i T w w4 w5 O m hd hr hO hC hB hA.1
  refine ⟨m1, u4, u5, f1.wkU (by decide), e1, ?_⟩
  unfold tsV
  rw [f1.1 226 dep (sWk_n (by omega) (by omega)), hA.2, if_neg (by decide), if_neg (by decide), v1]
theorem tests_g {m : eM} {j : Nat} : gI (mTests m j) 225 j = tsV m j ∧ gI (mTests m j) 228 j = 0 ∧ gI (mTests m j) 229 j = 0 ∧ gI (mTests m j) 230 j = 20 ∧ gI (mTests m j) 232 j = 0 := by
  obtain ⟨g1, g2, g3⟩ := sums_g (m := m) (j := j)
  unfold mTests
  refine ⟨?_, ?_, ?_, gI_w _ _ _ _, ?_⟩
  · rw [gI_sI, if_neg (by omega), gI_sI, if_neg (by omega), gI_sI, if_neg (by omega), gI_w]
  · rw [gI_sI, if_neg (by omega), gI_sI, if_neg (by omega), gI_w]
  · rw [gI_sI, if_neg (by omega), gI_w]
  · rw [gI_sI, if_neg (by omega), gI_sI, if_neg (by omega), gI_sI, if_neg (by omega), gI_sI, if_neg (by omega), g2]
theorem evTs_o {r : Nat} {o : xOp} {g h : xG} (ho : o.2.1 = 26 ∧ o.2.2 = fAnd ∨ o.2.1 = 27 ∧ o.2.2 = fOr) (h1 : evL 225 aL tsV r g) (h2 : evL 227 aT teV r h) : evL 225 aL tsV r (opG o g h) := fun d dep i T w w4 w5 O m hd hr hO hC hB hA => by
  rw [ob_l] at hC
  have hc : o.2.1 = 26 ∨ o.2.1 = 27 := ho.elim (fun q => Or.inl q.1) (fun q => Or.inr q.1)
  obtain ⟨c1, c2⟩ := hC.ap
  obtain ⟨m1, u4, u5, f1, e1, v1⟩ := h1 d dep i T w w4 w5 O m hd hr hO c1 hB hA
  obtain ⟨c2, c3⟩ := (c2.wk f1).cons
  obtain ⟨x4, x5, e2⟩ := w26 (d := d) hd hc (w4 := u4) (w5 := u5) c2 (show dep < 7 by omega)
  obtain ⟨g1, g2, g3, g4, g5⟩ := tests_g (m := m1) (j := dep)
  obtain ⟨m2, hm2⟩ : ∃ m2, m2 = sI (mTests m1 dep) 226 dep (nI o.2.1) := ⟨_, rfl⟩
  have f2 : Fr (sWk dep 225) m1 m2 := by
    rw [hm2]
    exact (mTests_f m1 dep).i (sWk_t (by omega))
  rw [← hm2] at e2
  have k : ∀ a, a ≠ 226 → gI m2 a dep = gI (mTests m1 dep) a dep := fun a q => by rw [hm2, gI_sI, if_neg (by omega)]
  have r226 : gI m2 226 dep = nI o.2.1 := by rw [hm2, gI_w]
  obtain ⟨m3, y4, y5, f3, e3, v3⟩ := h2 d dep _ T w x4 x5 O m2 hd hr hO (c3.wk f2) ((hB.fr f1).fr f2) ⟨⟨(k 232 (by decide)).trans g5, (k 229 (by decide)).trans g3, (k 230 (by decide)).trans g4⟩, (k 228 (by decide)).trans g2⟩
  refine ⟨m3, y4, y5, (f1.tr f2).tr (f3.wkU (by decide)), ?_, ?_⟩
  · rw [e1, e2, e3, ob_n]
  · unfold tsV
    rw [f3.1 226 dep (sWk_n (by omega) (by omega)), f3.1 225 dep (sWk_n (by omega) (by omega)), r226, k 225 (by decide), g1, v1, v3, ob_v]
    rcases ho with ⟨q1, q2⟩ | ⟨q1, q2⟩
    · rw [q1, q2, if_pos (by decide)]
    · rw [q1, q2, if_neg (by decide), if_pos (by decide)]
theorem pTs_M {s : eTp} {P : xP} {r : Nat} (h : ∀ b g, P b = .inr g → evP r g) : ∀ b g, pTs s P b = .inr g → evL 225 aL tsV r g := by
  have hPr : ∀ b g, pPr s P b = .inr g → evL 231 aP vP r g := fun b g hp => pBn_ind h (fun _ => evPr_b) (fun b o g h q => evPr_o (by obtain ⟨-, e⟩ := opM_i q; rw [e]; exact ⟨rfl, rfl⟩)) hp
  have hSm : ∀ b g, pSm s P b = .inr g → evL 229 aS sumV r g := fun b g hp => pBn_ind hPr (fun _ => evSm_b) (fun b o g h q => evSm_o (by rcases opA_i q with ⟨-, e⟩ | ⟨-, e⟩ <;> rw [e] <;> simp)) hp
  have hTe : ∀ b g, pTe s P b = .inr g → evL 227 aT teV r g := fun b g hp => by
    obtain ⟨g', q1, q2⟩ := pBn_i hp
    cases z : opC s g'.1 with
    | none => rw [pLp_n z] at q2; cases q2; exact evTe_b (hSm b _ q1)
    | some o =>
      cases y : pSm s P (tX s g'.1) with
      | inl e => rw [pLp_e z y] at q2; cases q2
      | inr x =>
        rw [pLp_s z y] at q2
        cases q2
        exact evTe_o (by rcases opC_i z with ⟨-, e⟩ | ⟨-, e⟩ <;> rw [e] <;> simp) (hSm b _ q1) (hSm _ _ y)
  exact fun b g hp => pBn_ind hTe (fun _ => evTs_b) (fun b o g h q => evTs_o (by rcases opL_i q with ⟨-, e⟩ | ⟨-, e⟩ <;> rw [e] <;> simp)) hp
theorem put_f {m : eM} {dep e : Nat} {v : Int32} : Fr (sPt dep e) m (mPut m e v) := Fr.rfl'.i (sPt_t (by omega))
theorem mOpens_g (m : eM) (j : Nat) : Fr (fun a k => decide (225 ≤ a ∧ a ≤ 233 ∧ k = j)) m (mOpens m j) ∧ aL (mOpens m j) j ∧ gI (mOpens m j) 233 j = gI m 233 j := by
  unfold mOpens
  refine ⟨((((Fr.rfl'.i (decide_eq_true (by omega))).i (decide_eq_true (by omega))).i (decide_eq_true (by omega))).i (decide_eq_true (by omega))).i (decide_eq_true (by omega)), ⟨⟨⟨gI_w _ _ _ _, ?_, ?_⟩, ?_⟩, ?_⟩, ?_⟩
  · rw [gI_sI, if_neg (by omega), gI_sI, if_neg (by omega), gI_w]
  · rw [gI_sI, if_neg (by omega), gI_w]
  · rw [gI_sI, if_neg (by omega), gI_sI, if_neg (by omega), gI_sI, if_neg (by omega), gI_w]
  · rw [gI_sI, if_neg (by omega), gI_sI, if_neg (by omega), gI_sI, if_neg (by omega), gI_sI, if_neg (by omega), gI_w]
  · rw [gI_sI, if_neg (by omega), gI_sI, if_neg (by omega), gI_sI, if_neg (by omega), gI_sI, if_neg (by omega), gI_sI, if_neg (by omega)]
theorem pPt_M {s : eTp} {N : Nat → Nat} {n : Nat} (ht : ∀ i, i < s.1 → s.2 i < 128) (hn : n ≤ 6) : ∀ r b g, pPt s N n r b = .inr g → evP r g
  | 0, b, g, hp => by
    obtain ⟨e, he⟩ := pPt_0 (s := s) (N := N) (n := n) (b := b)
    rw [he] at hp; cases hp
  | r + 1, b, g, hp => fun d dep i T w w4 w5 O m hd hr hC hB => by
    rcases pPt_i hp with ⟨f, h1, h2, rfl⟩ | ⟨g', h1, h2, rfl⟩ | ⟨g', h1, h2, h3, rfl⟩ | ⟨h1, rfl⟩
    · have hf := Nat.lt_of_lt_of_le (fnd_lt h2) hn
      obtain ⟨u5, e5⟩ := Mo_268_s d hC.1.1 i (nI (1 + f)) dep (bb (w.testBit f)) (by omega) hB
      refine ⟨_, _, _, put_f, (wFct hf hC).trans e5, ?_⟩
      unfold mPut
      rw [gI_w]
    · obtain ⟨c1, c2⟩ := hC.cons
      obtain ⟨x4, x5, e2⟩ := w28 (d := d) true (w4 := w4) (w5 := w5) c1 (show dep + 1 < 7 by omega)
      obtain ⟨m2, hm2⟩ : ∃ m2, m2 = mOpens (sI m 233 (dep + 1) (nI (if true = true then 1 else 0))) (dep + 1) := ⟨_, rfl⟩
      rw [← hm2] at e2
      obtain ⟨o1, -, o3⟩ := mOpens_g (sI m 233 (dep + 1) (nI (if true = true then 1 else 0))) (dep + 1)
      have f2 : Fr (fun a k => decide (225 ≤ a ∧ a ≤ 233 ∧ k = dep + 1)) m m2 := by
        rw [hm2]
        exact (Fr.rfl'.i (decide_eq_true (by omega))).tr o1
      obtain ⟨O', hO'⟩ : ∃ O' : Nat → Nat, O' = fun j => if j = dep + 1 then 1 else O j := ⟨_, rfl⟩
      have hO1 : ∀ j, 1 ≤ j → j ≤ dep → O' j = O j := fun j _ q => by rw [hO']; exact if_neg (by omega)
      have hB2 : ByS O' (dep + 1) m2 := fun j q1 q2 => by
        by_cases z : j = dep + 1
        · rw [z, hm2, o3, gI_w, hO']; exact ⟨by simp, by simp⟩
        · rw [f2.1 233 j (decide_eq_false (by omega)), hO1 j q1 (by omega)]; exact hB j q1 (by omega)
      have hpop : popD O' (dep + 1) = popD O dep := by
        unfold popD
        rw [show O' (dep + 1) = 1 by rw [hO']; exact if_pos rfl, if_pos rfl]
        cases dep with
        | zero => rfl
        | succ k => exact popD_c (k + 1) hO1
      have hle := popD_le O dep
      have c2' : CdA g'.2.2.1 (i + 1) T w m2 := c2.fr f2 (fun j => decide_eq_false (by omega)) (fun j => decide_eq_false (by omega)) (fun j => decide_eq_false (by omega))
      obtain ⟨m3, y4, y5, f3, e3, v3⟩ := pPt_M ht hn r _ g' h2 d (dep + 1) (i + 1) T w x4 x5 O' m2 hd (by omega) c2' hB2
      rw [hpop] at f3 e3 v3
      have f2' : Fr (sPt dep (popD O dep)) m m2 := f2.up fun a j q => decide_eq_false (by have := sPt_i q; omega)
      refine ⟨m3, y4, y5, f2'.tr f3.ptU, ?_, ?_⟩
      · rw [e2, e3]
        show _ = Mo_worked_14 (d + 1) 208 0 (nI (popD O dep)) (nI (i + (g'.2.2.1.length + 1))) y4 y5 m3
        rw [show i + (g'.2.2.1.length + 1) = i + 1 + g'.2.2.1.length by omega]
      · rw [v3, f2.1 232 _ (decide_eq_false (by omega)), f2.1 231 _ (decide_eq_false (by omega)), show dep + 1 - popD O dep = dep - popD O dep + 1 by omega]
        rfl
    · obtain ⟨c1, c2⟩ := hC.cons
      obtain ⟨c2, c3⟩ := c2.ap
      obtain ⟨x4, x5, e2⟩ := w28 (d := d) false (w4 := w4) (w5 := w5) c1 (show dep + 1 < 7 by omega)
      obtain ⟨m2, hm2⟩ : ∃ m2, m2 = mOpens (sI m 233 (dep + 1) (nI (if false = true then 1 else 0))) (dep + 1) := ⟨_, rfl⟩
      rw [← hm2] at e2
      obtain ⟨o1, o2, o3⟩ := mOpens_g (sI m 233 (dep + 1) (nI (if false = true then 1 else 0))) (dep + 1)
      have f2 : Fr (fun a k => decide (225 ≤ a ∧ a ≤ 233 ∧ k = dep + 1)) m m2 := by
        rw [hm2]
        exact (Fr.rfl'.i (decide_eq_true (by omega))).tr o1
      obtain ⟨O', hO'⟩ : ∃ O' : Nat → Nat, O' = fun j => if j = dep + 1 then 0 else O j := ⟨_, rfl⟩
      have hO1 : ∀ j, 1 ≤ j → j ≤ dep → O' j = O j := fun j _ q => by rw [hO']; exact if_neg (by omega)
      have hB2 : ByS O' (dep + 1) m2 := fun j q1 q2 => by
        by_cases z : j = dep + 1
        · rw [z, hm2, o3, gI_w, hO']; exact ⟨by simp, by simp⟩
        · rw [f2.1 233 j (decide_eq_false (by omega)), hO1 j q1 (by omega)]; exact hB j q1 (by omega)
      have hpop : popD O' (dep + 1) = dep + 1 := by
        unfold popD
        rw [show O' (dep + 1) = 0 by rw [hO']; exact if_pos rfl, if_neg (by decide)]
      have hle := popD_le O dep
      have c2' : CdA g'.2.2.1 (i + 1) T w m2 := c2.fr f2 (fun j => decide_eq_false (by omega)) (fun j => decide_eq_false (by omega)) (fun j => decide_eq_false (by omega))
      have c3' : CdA [29] (i + 1 + g'.2.2.1.length) T w m2 := c3.fr f2 (fun j => decide_eq_false (by omega)) (fun j => decide_eq_false (by omega)) (fun j => decide_eq_false (by omega))
      obtain ⟨m3, y4, y5, f3, e3, v3⟩ := pTs_M (s := s) (pPt_M ht hn r) _ g' h2 d (dep + 1) (i + 1) T w x4 x5 O' m2 hd (by omega) hpop c2' hB2 (by rw [hm2]; exact o2)
      have f2' : Fr (sPt dep (popD O dep)) m m2 := f2.up fun a j q => decide_eq_false (by have := sPt_i q; omega)
      have f3' : Fr (sPt dep (popD O dep)) m2 m3 := f3.wkP
      have f4 : Fr (sPt dep (popD O dep)) m3 (mTests m3 (dep + 1)) := (mTests_f m3 (dep + 1)).wkP
      have f24 := (f2'.tr f3').tr f4
      have hB4 : ByS O dep (mTests m3 (dep + 1)) := fun j q1 q2 => by
        rw [f24.1 233 j (sPt_n (by omega) (by omega))]; exact hB j q1 q2
      have c4 := (c3'.wk f3).wk (mTests_f m3 (dep + 1))
      obtain ⟨u5, e5⟩ := Mo_268_s d c4.1.1 (i + 1 + g'.2.2.1.length) 29 dep (tsV m3 (dep + 1)) (by omega) hB4
      refine ⟨mPut (mTests m3 (dep + 1)) (popD O dep) (ngN (dep - popD O dep) (tsV m3 (dep + 1))), .int 29, u5, f24.tr put_f, ?_, ?_⟩
      · rw [e2, e3, w29 hd (c3'.wk f3) (by omega), e5]
        show _ = Mo_worked_14 (d + 1) 208 0 (nI (popD O dep)) (nI (i + (g'.2.2.1 ++ [29]).length.succ)) _ _ _
        rw [List.length_append, show i + (g'.2.2.1.length + [29].length).succ = i + 1 + g'.2.2.1.length + 1 by rw [List.length_cons, List.length_nil]; omega]
      · unfold mPut
        have n1 : ∀ j, j ≤ dep → gI (mTests m3 (dep + 1)) 232 j = gI m 232 j := fun j hj => f24.1 232 j (sPt_n (by omega) (by omega))
        have n2 : gI (mTests m3 (dep + 1)) 231 (popD O dep) = gI m 231 (popD O dep) := by
          rw [(mTests_f m3 (dep + 1)).1 231 _ (sWk_n (by omega) (by omega)), f3.1 231 _ (sWk_n (by omega) (by omega)), f2.1 231 _ (decide_eq_false (by omega))]
        rw [gI_w, n1 _ hle, n2, v3]
    · obtain ⟨u5, e5⟩ := Mo_268_s d hC.1.1 i (nI (100 + tN s b)) dep (nI (tN s b)) (by omega) hB
      refine ⟨_, _, _, put_f, (wNum (tN_lt ht h1) hC).trans e5, ?_⟩
      unfold mPut
      rw [gI_w]
theorem pE_M {s : eTp} {N : Nat → Nat} {n b : Nat} {g : xG} (ht : ∀ i, i < s.1 → s.2 i < 128) (hn : n ≤ 6) (h : pE s N n b = .inr g) : evL 225 aL tsV 5 g := pTs_M (s := s) (pPt_M ht hn 5) b g h
def sWo (a _ : Nat) : Bool := decide (225 ≤ a ∧ a ≤ 233)
theorem Mo_worked_s {g : xG} (h : evL 225 aL tsV 5 g) {D : Nat} (hD : 2 ≤ D) {w : Nat} {m : eM} (hC : CdA g.2.2.1 0 g.2.2.1.length w m) (h0 : gI m 221 0 = 0) : ∃ m', Fr sWo m m' ∧ Mo_worked D 208 0 m = yI (g.2.2.2 w) m' := by
  obtain ⟨d, rfl⟩ : ∃ d, D = d + 1 := ⟨D - 1, by omega⟩
  obtain ⟨o1, o2, o3⟩ := mOpens_g m 0
  have hC1 : CdA g.2.2.1 0 g.2.2.1.length w (mOpens m 0) := hC.fr o1 (fun j => decide_eq_false (by omega)) (fun j => decide_eq_false (by omega)) (fun j => decide_eq_false (by omega))
  obtain ⟨m3, y4, y5, f3, e3, v3⟩ := h d 0 0 g.2.2.1.length w eU eU (fun _ => 0) (mOpens m 0) (by omega) (by decide) rfl hC1 (fun j q1 q2 => by omega) o2
  have hC3 := hC1.wk f3
  have hs3 : Sk (mTests m3 0) := hC3.1.1
  have up : ∀ {m m' : eM}, Fr (sWk 0 225) m m' → Fr sWo m m' := fun f => f.up fun a j q => by
    have := of_decide_eq_false q
    exact sWk_n (by omega) (by omega)
  refine ⟨mTests m3 0, ((o1.up fun a j q => decide_eq_false (by have := of_decide_eq_false q; omega)).tr (up f3)).tr (up (mTests_f m3 0)), ?_⟩
  have hT := hC.1.2.2.2.1
  have e3 : Mo_worked_14 (d + 1) 208 0 0 0 eU eU (mOpens m 0) = _ := e3
  have h0' : gI (mOpens m 0) 221 0 = 0 := (o1.1 221 0 (decide_eq_false (by omega))).trans h0
  rw [Mo_worked_e _ _ _ _ kd_208, show Mo_opens d 208 (0 : Int32) m = yV (mOpens m 0) from Mo_opens_s hC.1.1 d (by decide), bV_y, rf_208_21 hC1.1.1, bR_s, show (0 : Int32) = nI 0 from rfl, ga_221 (by decide), n_cl (by decide), h0']
  show Mo_worked_14 (d + 1) 208 0 0 0 eU eU (mOpens m 0) = _
  rw [e3, Nat.zero_add, Mo_worked_14_e _ _ _ _ _ _ _ _ kd_208, rf_208_22 hC3.1.1, bR_s, show (0 : Int32) = nI 0 from rfl, ga_222 (by decide), n_cl (by decide), hC3.1.2.1, if_pos (by rw [n_le (by omega) (by omega)]; exact Nat.le_refl _), Mo_tests_s hC3.1.1 (by omega) (by decide), bV_y, rf_208_26 hs3, bR_s, ga_225 (by decide), (tests_g (m := m3) (j := 0)).1, v3]
/-! in which worlds it is so -/
def sSo (a _ : Nat) : Bool := decide (225 ≤ a ∧ a ≤ 234)
theorem Mo_soIn_16_s (d : Nat) (x1 : Int32) (y2 : Int64) {w : Nat} (hw : w < 64) : ∀ k f m, f + k = 6 → Sk m → (∀ j, j < f → gI m 234 (1 + j) = bb (w.testBit j)) → ∃ m', Fr (fun a _ => a == 234) m m' ∧ Mo_soIn_16 (d + 1) 208 x1 y2 (nI w) (nI f) m = Mo_soIn_16 (d + 1) 208 x1 y2 (nI w) (nI 6) m' ∧ ∀ j, j < 6 → gI m' 234 (1 + j) = bb (w.testBit j)
  | 0, f, m, e, hs, h => ⟨m, Fr.rfl', by rw [show f = 6 by omega], by rw [show f = 6 by omega] at h; exact h⟩
  | k + 1, f, m, e, hs, h => by
    obtain ⟨m', f2, e2, h2⟩ := Mo_soIn_16_s d x1 y2 hw k (f + 1) (sI m 234 (1 + f) (bb (w.testBit f))) (by omega) hs (fun j hj => by
      rw [gI_sI]
      by_cases z : j = f
      · rw [if_pos ⟨rfl, by omega⟩, z]
      · rw [if_neg (fun q => by omega)]; exact h j (by omega))
    refine ⟨m', (Fr.rfl'.i (a := 234) (j := 1 + f) (v := bb (w.testBit f)) rfl).tr f2, ?_, h2⟩
    rw [← e2, Mo_soIn_16_e _ _ _ _ _ _ _ kd_208, if_neg (by rw [show (6 : Int32) = nI 6 from rfl, n_le (by omega) (by omega)]; omega), rf_208_35 hs, bR_s, show (1 : Int32) = nI 1 from rfl, nI_add, gw_234 (by omega), mI_u, n_cl (by omega), nI_add]
    have := bitI (n := w) (k := f) (by omega) (by omega)
    rw [show (nI w >>> (nI f &&& 31)) &&& nI 1 = bb (w.testBit f) from this]
theorem Mo_soIn_5_s {g : xG} (h : evL 225 aL tsV 5 g) {d : Nat} (hd : 2 ≤ d) {n : Nat} (hn : n ≤ 6) : ∀ j w w5 m, w + j = 2 ^ n → Sk m → gI m 221 0 = 0 → gI m 222 0 = nI g.2.2.1.length → g.2.2.1.length ≤ 1000 → (∀ k, k < g.2.2.1.length → gI m 220 k = nI (g.2.2.1.getD k 0)) → ∃ m', Fr sSo m m' ∧ Mo_soIn_5 (d + 1) 208 (nI n) (mk fun u => decide (u < w) && !decide (g.2.2.2 u = 0)) (nI w) w5 m = yL (woN n g.2.2.2) m'
  | 0, w, w5, m, e, hs, h0, h1, h2, h3 => by
    have hW : 2 ^ n ≤ 64 := Nat.pow_le_pow_right (n := 2) (by decide) hn
    refine ⟨m, Fr.rfl', ?_⟩
    rw [Mo_soIn_5_e _ _ _ _ _ _ _ kd_208, shl1 n (by omega), if_pos (by rw [n_le (by omega) (by omega)]; omega), show w = 2 ^ n by omega]
    rfl
  | j + 1, w, w5, m, e, hs, h0, h1, h2, h3 => by
    have hW : 2 ^ n ≤ 64 := Nat.pow_le_pow_right (n := 2) (by decide) hn
    obtain ⟨m1, f1, e1, v1⟩ := Mo_soIn_16_s d (nI n) (mk fun u => decide (u < w) && !decide (g.2.2.2 u = 0)) (show w < 64 by omega) 6 0 m rfl hs (fun j hj => by omega)
    have hs1 := f1.sk hs
    obtain ⟨m2, f2, e2⟩ := Mo_worked_s h hd (w := w) (m := m1) ⟨⟨hs1, (f1.1 _ _ rfl).trans h1, by omega, h2, v1⟩, fun k hk => by rw [Nat.zero_add]; exact (f1.1 _ _ rfl).trans (h3 k hk)⟩ ((f1.1 _ _ rfl).trans h0)
    have f12 : Fr sSo m m2 := (f1.up fun a j q => by
      have := of_decide_eq_false q
      simp; omega).tr (f2.up fun a j q => decide_eq_false (by have := of_decide_eq_false q; omega))
    obtain ⟨m3, f3, e3⟩ := Mo_soIn_5_s h hd hn j (w + 1) (.int (nI 6)) m2 (by omega) (f12.sk hs) ((f12.1 _ _ rfl).trans h0) ((f12.1 _ _ rfl).trans h1) h2 (fun k hk => (f12.1 _ _ rfl).trans (h3 k hk))
    refine ⟨m3, f12.tr f3, ?_⟩
    have e1 : Mo_soIn_16 (d + 1) 208 (nI n) (mk fun u => decide (u < w) && !decide (g.2.2.2 u = 0)) (nI w) (0 : Int32) m = _ := e1
    rw [← e3, Mo_soIn_5_e _ _ _ _ _ _ _ kd_208, shl1 n (by omega), if_neg (by rw [n_le (by omega) (by omega)]; omega), e1, Mo_soIn_16_e _ _ _ _ _ _ _ kd_208, if_pos (by decide), e2, bI_y, nI_1]
    by_cases z : g.2.2.2 w = 0
    · rw [if_pos z]
      congr 1
      refine mk_c fun u _ => ?_
      by_cases y : u = w
      · rw [y, decide_eq_true z, Bool.not_true, Bool.and_false, Bool.and_false]
      · rw [show decide (u < w + 1) = decide (u < w) from decide_eq_decide.mpr (by omega)]
    · rw [if_neg z, lL_u, mk_put _ (by omega)]
      congr 1
      refine mk_c fun u _ => ?_
      by_cases y : u = w
      · rw [y, decide_eq_false z, decide_eq_true (show w < w + 1 by omega)]; simp
      · rw [show decide (u < w + 1) = decide (u < w) from decide_eq_decide.mpr (by omega), decide_eq_false y, Bool.or_false]
theorem Mo_soIn_s {g : xG} (h : evL 225 aL tsV 5 g) {D : Nat} (hD : 3 ≤ D) {n : Nat} (hn : n ≤ 6) {m : eM} (hs : Sk m) (h0 : gI m 221 0 = 0) (h1 : gI m 222 0 = nI g.2.2.1.length) (h2 : g.2.2.1.length ≤ 1000) (h3 : ∀ k, k < g.2.2.1.length → gI m 220 k = nI (g.2.2.1.getD k 0)) : ∃ m', Fr sSo m m' ∧ Mo_soIn D 208 (nI n) m = yL (woN n g.2.2.2) m' := by
  obtain ⟨d, rfl⟩ : ∃ d, D = d + 1 := ⟨D - 1, by omega⟩
  obtain ⟨m', f, e⟩ := Mo_soIn_5_s h (show 2 ≤ d by omega) hn (2 ^ n) 0 eU m (by omega) hs h0 h1 h2 h3
  refine ⟨m', f, ?_⟩
  rw [Mo_soIn_e _ _ _ _ kd_208, ← e]
  congr 1
  exact mk_0.symm.trans (mk_c fun u _ => by simp)
