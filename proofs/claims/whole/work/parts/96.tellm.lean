/-! ===== the reference reads a parish ===== -/
/-- what reading a parish may write -/
def sNr (a j : Nat) : Bool := decide (a = 208 ∧ (4 ≤ j ∧ j ≤ 9 ∨ j = 23 ∨ j = 38) ∨ a = 210 ∧ 3 ≤ j ∨ a = 211 ∧ 18 ≤ j ∨ 212 ≤ a ∧ a ≤ 215 ∧ 6 ≤ j ∨ 216 ≤ a ∧ a ≤ 218 ∧ 2 ≤ j ∨ a = 220 ∨ 222 ≤ a ∧ a ≤ 236)
theorem Fr.rN {m m' : eM} (f : Fr sNr m m') : Fr sNw m m' := f.up fun a j q => decide_eq_false (by have := of_decide_eq_false q; omega)
theorem Fr.reQ {m m' : eM} (f : Fr sRe m m') : Fr sNr m m' := f.up fun a j q => by
  have := of_decide_eq_false q
  exact sRd_n (by omega) (by omega) (by omega) (by omega)
theorem Fr.soQ {m m' : eM} (f : Fr sSo m m') : Fr sNr m m' := f.up fun a j q => decide_eq_false (by have := of_decide_eq_false q; omega)
theorem Fr.tmQ {m m' : eM} (f : Fr sTm m m') : Fr sNr m m' := f.up fun a j q => sTm_n (by have := of_decide_eq_false q; omega)
def PT (s : eTp) (b : Nat) (m : eM) : Prop := (Sk m ∧ TzM s m) ∧ TkM s b m ∧ b ≤ s.1 ∧ gI m 221 0 = 0
def Mu (u : eV) (m : eM) : Prop := (gI m 210 3 = nI (nF u) ∧ gI m 210 4 = nI (nPl u) ∧ gI m 210 5 = nI (nP u) ∧ gI m 208 38 = nI (nCm u)) ∧ (∀ j, j < nF u → gL m 211 (18 + j) = lN (nam u j) ∧ gI m 212 (6 + j) = nI (cha u j)) ∧ (∀ j, j < nPl u → gL m 211 (24 + j) = lN (plc u j) ∧ gI m 213 (6 + j) = nI (bea u j)) ∧ (∀ j, j < nP u → gL m 211 (30 + j) = lN (prs u j) ∧ gI m 214 (6 + j) = nI (hom u j) ∧ gI m 215 (6 + j) = nI (kno u j)) ∧ (∀ c, c < 2 → gI m 216 (2 + c) = nI (lawV u c) ∧ gI m 217 (2 + c) = nI (lat u c) ∧ gI m 218 (2 + c) = nI (isc u c) ∧ gI m 235 c = nI (tol u c)) ∧ ∀ k, k < nCm u → gL m 236 k = cmS u k
theorem Mu.fr {u : eV} {m m' : eM} {S : Nat → Nat → Bool} (h : Mu u m) (f : Fr S m m') (hS : ∀ a j, 210 ≤ a → a ≤ 218 ∨ a = 235 ∨ a = 236 → S a j = false) (h38 : S 208 38 = false) : Mu u m' := by
  obtain ⟨⟨a1, a2, a3, a4⟩, b, c, d, e, g⟩ := h
  refine ⟨⟨(f.1 _ _ (hS _ _ (by decide) (by decide))).trans a1, (f.1 _ _ (hS _ _ (by decide) (by decide))).trans a2, (f.1 _ _ (hS _ _ (by decide) (by decide))).trans a3, (f.1 _ _ h38).trans a4⟩, fun j hj => ?_, fun j hj => ?_, fun j hj => ?_, fun x hx => ?_, fun k hk => (f.2.1 _ _ (hS _ _ (by decide) (by decide))).trans (g k hk)⟩
  · rw [f.2.1 _ _ (hS _ _ (by decide) (by decide)), f.1 _ _ (hS _ _ (by decide) (by decide))]; exact b j hj
  · rw [f.2.1 _ _ (hS _ _ (by decide) (by decide)), f.1 _ _ (hS _ _ (by decide) (by decide))]; exact c j hj
  · rw [f.2.1 _ _ (hS _ _ (by decide) (by decide)), f.1 _ _ (hS _ _ (by decide) (by decide)), f.1 _ _ (hS _ _ (by decide) (by decide))]; exact d j hj
  · rw [f.1 _ _ (hS _ _ (by decide) (by decide)), f.1 _ _ (hS _ _ (by decide) (by decide)), f.1 _ _ (hS _ _ (by decide) (by decide)), f.1 _ _ (hS _ _ (by decide) (by decide))]; exact e x hx
theorem Mu.tm {u : eV} {m m' : eM} (h : Mu u m) (f : Fr sTm m m') : Mu u m' := h.fr f (fun a j q1 q2 => sTm_n (by omega)) rfl
theorem PT.fr {s : eTp} {b : Nat} {m m' : eM} {S : Nat → Nat → Bool} (h : PT s b m) (f : Fr S m m') (h1 : ∀ j, j < 9 → S 208 j = false) (h2 : ∀ j, S 209 j = false) (h3 : S 221 0 = false) : PT s b m' := ⟨⟨f.sk h.1.1, h.1.2.fr f (h1 3 (by decide)) h2⟩, h.2.1.fr f (fun j q1 q2 => h1 j (by omega)), h.2.2.1, (f.1 _ _ h3).trans h.2.2.2⟩
theorem PT.nx {s : eTp} {b : Nat} {m : eM} (h : PT s b m) {D : Nat} (hD : 1 ≤ D) : ∃ m', Fr sTm m m' ∧ Mo_nextToken D 208 m = yV m' ∧ PT s (tX s b) m' := by
  obtain ⟨m', f, e, k⟩ := Mo_nt_s hD (tX_le h.2.2.1).2 h.1.1 h.1.2 h.2.1.2.2.1
  exact ⟨m', f, e, ⟨f.sk h.1.1, h.1.2.st f⟩, k, (tX_le h.2.2.1).2, (f.1 _ _ rfl).trans h.2.2.2⟩
theorem PT.bad {s : eTp} {b : Nat} {m : eM} (h : PT s b m) (k d : Nat) : Mo_fails d 208 (nI k) m = yI 0 (sI m 208 9 (nI (er s b k))) ∧ Fr sNr m (sI m 208 9 (nI (er s b k))) := ⟨Mo_fails_s h.2.1 k d, Fr.rfl'.i rfl⟩
def reM (s : eTp) (m : eM) (R : oX) (o : Sum Nat Nat) : Prop := (∀ b', o = .inr b' → ∃ m', Fr sTm m m' ∧ R = yI 1 m' ∧ PT s b' m') ∧ (∀ e, o = .inl e → ∃ m', Fr sNr m m' ∧ R = yI 0 m' ∧ gI m' 208 9 = nI e)
theorem PT.W {s : eTp} {b : Nat} {m : eM} (h : PT s b m) {D : Nat} (hD : 2 ≤ D) {n : Nat} (hn : n < 27 ^ 8) : reM s m (Mo_needsWord D 208 (lN n) m) (rqW s n b) := by
  obtain ⟨d, rfl⟩ : ∃ d, D = d + 1 := ⟨D - 1, by omega⟩
  rw [Mo_needsWord_e _ _ _ _ kd_208, Mo_isWord_s h.2.1 hn, bI_y]
  unfold rqW
  by_cases z : tkW s b n = true
  · obtain ⟨m', f, e, c⟩ := h.nx (D := d) (by omega)
    rw [z, if_pos bt0, e, bV_y, if_pos rfl]
    exact ⟨fun b' q => (by cases q; exact ⟨m', f, rfl, c⟩), fun e q => (by cases q)⟩
  · rw [Bool.eq_false_iff.mpr z, if_neg nbf0, show (1 : Int32) = nI 1 from rfl, (h.bad 1 d).1, bI_y, yB0, if_neg (by decide)]
    exact ⟨fun b' q => (by cases q), fun e q => (by cases q; exact ⟨_, (h.bad 1 d).2, rfl, gI_w _ _ _ _⟩)⟩
theorem PT.E {s : eTp} {b : Nat} {m : eM} (h : PT s b m) {D : Nat} (hD : 2 ≤ D) : reM s m (Mo_ends D 208 m) (rqS s 59 b) := by
  obtain ⟨d, rfl⟩ : ∃ d, D = d + 1 := ⟨D - 1, by omega⟩
  rw [Mo_ends_e _ _ _ kd_208, show (59 : Int32) = nI 59 from rfl, Mo_isSign_s h.1.1 h.1.2 h.2.1 (by decide) rfl, bI_y]
  unfold rqS
  by_cases z : tkS s b 59 = true
  · obtain ⟨m', f, e, c⟩ := h.nx (D := d) (by omega)
    rw [z, if_pos bt0, e, bV_y, if_pos rfl]
    exact ⟨fun b' q => (by cases q; exact ⟨m', f, rfl, c⟩), fun e q => (by cases q)⟩
  · rw [Bool.eq_false_iff.mpr z, if_neg nbf0, show (1 : Int32) = nI 1 from rfl, (h.bad 1 d).1, bI_y, yB0, if_neg (by decide)]
    exact ⟨fun b' q => (by cases q), fun e q => (by cases q; exact ⟨_, (h.bad 1 d).2, rfl, gI_w _ _ _ _⟩)⟩
theorem PT.N {s : eTp} {b : Nat} {m : eM} (h : PT s b m) {D : Nat} (hD : 1 ≤ D) {n : Nat} (hn : n < 10000) : (∀ b', rqN s n b = .inr b' → Mo_needsNumber D 208 (nI n) m = yI 1 m ∧ gI m 208 8 = nI (tN s b)) ∧ (∀ e, rqN s n b = .inl e → ∃ m', Fr sNr m m' ∧ Mo_needsNumber D 208 (nI n) m = yI 0 m' ∧ gI m' 208 9 = nI e) := by
  obtain ⟨d, rfl⟩ : ∃ d, D = d + 1 := ⟨D - 1, by omega⟩
  have hk := mK_lt s b
  rw [Mo_needsNumber_e _ _ _ _ kd_208, h.2.1.2.1]
  unfold rqN
  by_cases z : tK s b = 3
  · have hl := tN_lt h.1.2.2.2.2 z
    have h8 := h.2.1.2.2.2.2 z
    rw [if_pos (show nI (mK s b) = 2 by rw [mK_2.mpr z]; rfl), h8, if_pos z]
    by_cases y : tN s b ≤ n
    · rw [if_pos (show nI (tN s b) ≤ nI n by rw [n_le (by omega) (by omega)]; exact y), if_pos y]
      exact ⟨fun b' q => ⟨rfl, rfl⟩, fun e q => (by cases q)⟩
    · rw [if_neg (show ¬ nI (tN s b) ≤ nI n by rw [n_le (by omega) (by omega)]; exact y), if_neg y, show (4 : Int32) = nI 4 from rfl, (h.bad 4 d).1, bI_y, if_pos rfl]
      exact ⟨fun b' q => (by cases q), fun e q => (by cases q; exact ⟨_, (h.bad 4 d).2, rfl, gI_w _ _ _ _⟩)⟩
  · rw [if_neg (show ¬ nI (mK s b) = 2 by rw [show (2 : Int32) = nI 2 from rfl, n_eq (by omega) (by omega)]; exact fun q => z (mK_2.mp q)), if_neg z, show (1 : Int32) = nI 1 from rfl, (h.bad 1 d).1, bI_y, yB0]
    exact ⟨fun b' q => (by cases q), fun e q => (by cases q; exact ⟨_, (h.bad 1 d).2, rfl, gI_w _ _ _ _⟩)⟩
/-! lines -/
def liM (s : eTp) (m : eM) (F : oX) (o : xL) : Prop := (∀ r, o = .inr r → ∃ m', Fr sNr m m' ∧ F = yI 1 m' ∧ PT s r.1 m' ∧ Mu r.2 m') ∧ (∀ e, o = .inl e → ∃ m', Fr sNr m m' ∧ F = yI 0 m' ∧ gI m' 208 9 = nI e)
theorem liM.up {s : eTp} {m m1 : eM} {F : oX} {o : xL} (f : Fr sNr m m1) (h : liM s m1 F o) : liM s m F o :=
  ⟨fun r q => by obtain ⟨m', a, b, c⟩ := h.1 r q; exact ⟨m', f.tr a, b, c⟩, fun e q => by obtain ⟨m', a, b, c⟩ := h.2 e q; exact ⟨m', f.tr a, b, c⟩⟩
theorem lm_e {s : eTp} {m m1 : eM} {F : oX} {e : Nat} (f : Fr sNr m m1) (hF : F = yI 0 m1) (h8 : gI m1 208 9 = nI e) : liM s m F (.inl e) := ⟨fun r q => (by cases q), fun e q => (by cases q; exact ⟨m1, f, hF, h8⟩)⟩
theorem lm_re {s : eTp} {m : eM} {R : oX} {K : Int32 → eM → oX} {o : Sum Nat Nat} {f : Nat → xL} (h : reM s m R o) (h1 : ∀ b' m', Fr sTm m m' → PT s b' m' → o = .inr b' → liM s m' (K 1 m') (f b')) (h0 : ∀ m', K 0 m' = yI 0 m') : liM s m (bI R K) (sb o f) := by
  cases z : o with
  | inl e =>
    obtain ⟨m1, f1, e1, r1⟩ := h.2 e z
    rw [e1, bI_y, h0]
    exact lm_e f1 rfl r1
  | inr b' =>
    obtain ⟨m1, f1, e1, c1⟩ := h.1 b' z
    rw [e1, bI_y]
    exact (h1 b' m1 f1 c1 z).up f1.tmQ
theorem lm_nu {s : eTp} {b : Nat} {m : eM} {K : Int32 → eM → oX} {f : Nat → xL} (h : PT s b m) {D : Nat} (hD : 1 ≤ D) {n : Nat} (hn : n < 10000) (h1 : ∀ b', rqN s n b = .inr b' → tK s b = 3 → tN s b ≤ n → b' = tX s b → gI m 208 8 = nI (tN s b) → liM s m (K 1 m) (f b')) (h0 : ∀ m', K 0 m' = yI 0 m') : liM s m (bI (Mo_needsNumber D 208 (nI n) m) K) (sb (rqN s n b) f) := by
  obtain ⟨a1, a2⟩ := h.N hD hn
  cases z : rqN s n b with
  | inl e =>
    obtain ⟨m1, f1, e1, r1⟩ := a2 e z
    rw [e1, bI_y, h0]
    exact lm_e f1 rfl r1
  | inr b' =>
    obtain ⟨i1, i2, i3⟩ := rqN_i z
    obtain ⟨j1, j2⟩ := a1 b' z
    rw [j1, bI_y]
    exact h1 b' z i1 i2 i3 j2
theorem lm_nt {s : eTp} {b : Nat} {m : eM} {K : eM → oX} {o : xL} (h : PT s b m) {D : Nat} (hD : 1 ≤ D) (h1 : ∀ m', Fr sTm m m' → PT s (tX s b) m' → liM s m' (K m') o) : liM s m (bV (Mo_nextToken D 208 m) K) o := by
  obtain ⟨m1, f1, e1, c1⟩ := h.nx hD
  rw [e1, bV_y]
  exact (h1 m1 f1 c1).up f1.tmQ
theorem lm_en {s : eTp} {b : Nat} {u' : eV} {m : eM} (h : PT s b m) (hu : Mu u' m) {D : Nat} (hD : 2 ≤ D) : liM s m (bI (Mo_ends D 208 m) fun v m' => yB v m') (sb (rqS s 59 b) fun b5 => .inr (b5, u')) := by
  refine lm_re (h.E hD) (fun b' m' f c z => ?_) (fun m' => rfl)
  exact ⟨fun r q => (by cases q; exact ⟨m', Fr.rfl', rfl, c, hu.tm f⟩), fun e q => (by cases q)⟩
/-! names -/
theorem Mu.fF {s : eTp} {u : eV} {b : Nat} {m : eM} (hV : Vu u) (h : Mu u m) (hp : PT s b m) (hk : tK s b = 2) (d : Nat) : Mo_whichOf d 208 (0 : Int32) m = yI (pO (fnd (nam u) (nF u) (tW s b))) m := Mo_whichOf_s d (kind := 0) (by decide) hV.1.1 (tW_lt hk) (fun j hj => (hV.2.1.1 j hj).2) hp.1.1 h.1.1 (fun j hj => (h.2.1 j hj).1) (hp.2.1.2.2.2.1 hk)
theorem Mu.fP {s : eTp} {u : eV} {b : Nat} {m : eM} (hV : Vu u) (h : Mu u m) (hp : PT s b m) (hk : tK s b = 2) (d : Nat) : Mo_whichOf d 208 (1 : Int32) m = yI (pO (fnd (plc u) (nPl u) (tW s b))) m := Mo_whichOf_s d (kind := 1) (by decide) hV.1.2.1 (tW_lt hk) (fun j hj => (hV.2.1.2.1 j hj).2) hp.1.1 h.1.2.1 (fun j hj => (h.2.2.1 j hj).1) (hp.2.1.2.2.2.1 hk)
theorem Mu.fQ {s : eTp} {u : eV} {b : Nat} {m : eM} (hV : Vu u) (h : Mu u m) (hp : PT s b m) (hk : tK s b = 2) (d : Nat) : Mo_whichOf d 208 (2 : Int32) m = yI (pO (fnd (prs u) (nP u) (tW s b))) m := Mo_whichOf_s d (kind := 2) (by decide) hV.1.2.2.1 (tW_lt hk) (fun j hj => (hV.2.1.2.2 j hj).2.2) hp.1.1 h.1.2.2.1 (fun j hj => (h.2.2.2.1 j hj).1) (hp.2.1.2.2.2.1 hk)
theorem pO_s {o : Option Nat} (h : ∀ k, o = some k → k < 2147483648) : (0 ≤ pO o) = (o.isSome = true) := by
  cases o with
  | none => exact propext ⟨fun q => absurd q (by decide), fun q => (by cases q)⟩
  | some k => exact propext ⟨fun _ => rfl, fun _ => pO_ge (h k rfl)⟩
theorem pO_lt (o : Option Nat) : (pO o < 0) = ¬ (0 ≤ pO o) := propext ⟨fun h q => absurd (Int32.lt_iff_toInt_lt.mp h) (by have := Int32.le_iff_toInt_le.mp q; omega), fun h => by
  rw [Int32.lt_iff_toInt_lt]
  rw [Int32.le_iff_toInt_le] at h
  omega⟩
theorem fnd_l6 {N : Nat → Nat} {n w : Nat} (hn : n ≤ 6) : ∀ k, fnd N n w = some k → k < 2147483648 := fun k h => by have := fnd_lt h; omega
/-- up to a new name, and behind it -/
theorem lm_sl {s : eTp} {u : eV} {b : Nat} {m : eM} {K : Int32 → eM → oX} {f : Nat → xL} (h : PT s b m) (hu : Mu u m) (hV : Vu u) {kind cnt : Nat} (hk3 : kind < 3) (hcnt : cnt < 6) (hc : gI m 210 (3 + kind) = nI cnt) (hfree : ∀ j, j < nF u → 18 + j ≠ 18 + 6 * kind + cnt) (hfree1 : ∀ j, j < nPl u → 24 + j ≠ 18 + 6 * kind + cnt) (hfree2 : ∀ j, j < nP u → 30 + j ≠ 18 + 6 * kind + cnt) {D : Nat} (hD : 2 ≤ D) (h1 : ∀ b1 m1, stL s u b cnt = .inr b1 → tkN s b1 = true → PT s (tX s b1) m1 → Mu u m1 → gL m1 211 (18 + 6 * kind + cnt) = lN (tW s b1) → liM s m1 (K 1 m1) (f b1)) (h0 : ∀ m', K 0 m' = yI 0 m') : liM s m (bV (Mo_nextToken D 208 m) fun m2 => bI (Mo_needsNew D 208 (nI kind) m2) K) (sb (stL s u b cnt) f) := by
  obtain ⟨d, rfl⟩ : ∃ d, D = d + 1 := ⟨D - 1, by omega⟩
  refine lm_nt h (by omega) fun m1 f1 c1 => ?_
  have u1 := hu.tm f1
  have hc1 : gI m1 210 (3 + kind) = nI cnt := (f1.1 _ _ (sTm_n (by omega))).trans hc
  rw [Mo_needsNew_e _ _ _ _ kd_208, Mo_isKept_s c1.2.1, bI_y]
  unfold stL at h1 ⊢
  rw [if_neg (show ¬ 6 ≤ cnt by omega)] at h1 ⊢
  by_cases y : tkN s (tX s b) = true
  · have hk := (tkN_k y).1
    rw [y, Bool.not_true, if_pos bf0, if_pos rfl, Mu.fF hV u1 c1 hk, bI_y, Mu.fP hV u1 c1 hk, bI_y, Mu.fQ hV u1 c1 hk, bI_y]
    have q1 := pO_s (fnd_l6 (N := nam u) (w := tW s (tX s b)) hV.1.1)
    have q2 := pO_s (fnd_l6 (N := plc u) (w := tW s (tX s b)) hV.1.2.1)
    have q3 := pO_s (fnd_l6 (N := prs u) (w := tW s (tX s b)) hV.1.2.2.1)
    rw [if_pos y] at h1
    have bad3 : isTd u (tW s (tX s b)) = true → ∀ R, R = yI 0 (sI m1 208 9 (nI (er s (tX s b) 3))) → liM s m1 (bI R K) (sb (if isTd u (tW s (tX s b)) = true then .inl (er s (tX s b) 3) else .inr (tX s b)) f) := fun q R hR => by
      rw [if_pos q, hR, bI_y, h0]
      exact lm_e (c1.bad 3 d).2 rfl (gI_w _ _ _ _)
    have f3 : Mo_fails d 208 (3 : Int32) m1 = yI 0 (sI m1 208 9 (nI (er s (tX s b) 3))) := (c1.bad 3 d).1
    cases z1 : (fnd (nam u) (nF u) (tW s (tX s b))).isSome with
    | true =>
      refine bad3 (by unfold isTd; rw [z1]; rfl) _ ?_
      rw [if_pos (by rw [q1]; exact z1), f3, bI_y, yB0]
    | false =>
      cases z2 : (fnd (plc u) (nPl u) (tW s (tX s b))).isSome with
      | true =>
        refine bad3 (by unfold isTd; rw [z1, z2]; rfl) _ ?_
        rw [if_neg (by rw [q1, z1]; decide), if_pos (by rw [q2]; exact z2), f3, bI_y, yB0]
      | false =>
        cases z3 : (fnd (prs u) (nP u) (tW s (tX s b))).isSome with
        | true =>
          refine bad3 (by unfold isTd; rw [z1, z2, z3]; rfl) _ ?_
          rw [if_neg (by rw [q1, z1]; decide), if_neg (by rw [q2, z2]; decide), if_neg (by rw [pO_lt, q3, z3]; exact fun q => q rfl), f3, bI_y, yB0]
        | false =>
          have nT : isTd u (tW s (tX s b)) = false := by unfold isTd; rw [z1, z2, z3]; rfl
          rw [nT, if_neg (show ¬ false = true by decide)] at h1
          rw [if_neg (by rw [q1, z1]; decide), if_neg (by rw [q2, z2]; decide), if_pos (by rw [pO_lt, q3, z3]; decide), nT, if_neg (show ¬ false = true by decide), rf_208_11 c1.1.1, bR_s, rf_208_10 c1.1.1, bR_s, show (3 : Int32) = nI 3 from rfl, nI_add, ga_210 (by omega), n_cl (by omega), hc1, show (6 : Int32) = nI 6 from rfl, show (18 : Int32) = nI 18 from rfl, nI_mul, nI_add, nI_add, gw_211 (by omega), mJ_u, n_cl (by omega), c1.2.1.2.2.2.1 hk]
          have f2 : Fr (fun a j => a == 211 && j == 18 + 6 * kind + cnt) m1 (sL m1 211 (18 + 6 * kind + cnt) (lN (tW s (tX s b)))) := Fr.rfl'.l (by simp)
          have c2 : PT s (tX s b) (sL m1 211 (18 + 6 * kind + cnt) (lN (tW s (tX s b)))) := c1.fr f2 (fun _ _ => rfl) (fun _ => rfl) rfl
          have nl : ∀ j, j ≠ 18 + 6 * kind + cnt → gL (sL m1 211 (18 + 6 * kind + cnt) (lN (tW s (tX s b)))) 211 j = gL m1 211 j := fun j q => by rw [gL_sL, if_neg (fun z => q z.2)]
          have u2 : Mu u (sL m1 211 (18 + 6 * kind + cnt) (lN (tW s (tX s b)))) := by
            obtain ⟨a, b1, c, d1, e, g⟩ := u1
            refine ⟨a, fun j hj => ?_, fun j hj => ?_, fun j hj => ?_, e, fun k hk => ?_⟩
            · rw [nl _ (hfree j hj)]; exact b1 j hj
            · rw [nl _ (hfree1 j hj)]; exact c j hj
            · rw [nl _ (hfree2 j hj)]; exact d1 j hj
            · rw [gL_sL, if_neg (by omega)]; exact g k hk
          obtain ⟨m3, f3', e3, c3⟩ := c2.nx (D := d) (by omega)
          rw [e3, bV_y, bI_y]
          refine liM.up ((Fr.rfl'.l (a := 211) (j := 18 + 6 * kind + cnt) (v := lN (tW s (tX s b))) (decide_eq_true (by omega))).tr f3'.tmQ) ?_
          exact h1 (tX s b) m3 rfl y c3 (u2.tm f3') ((f3'.2.1 _ _ (sTm_n (by omega))).trans (gL_w _ _ _ _))
  · rw [Bool.eq_false_iff.mpr y, Bool.not_false, if_neg bt0, if_neg (by decide), show (1 : Int32) = nI 1 from rfl, (c1.bad 1 d).1, bI_y, yB0, bI_y, h0]
    exact lm_e (c1.bad 1 d).2 rfl (gI_w _ _ _ _)
/-! what is told more -/
theorem uFact_g (u : eV) (n c a k : Nat) (q0 : a ≠ 0) (q1 : ¬ (a = 1 ∧ k = nF u)) (q2 : ¬ (a = 18 ∧ k = nF u)) : (uFact u n c).1 a k = u.1 a k := by
  show (upV (upV (upV (upL u 1 0 (dbl (com u) (nF u))) 1 (nF u) c) 18 (nF u) n) 0 0 (nF u + 1)).1 a k = _
  rw [up_o _ _ _ _ _ _ (by omega), up_o _ _ _ _ _ _ q2, up_o _ _ _ _ _ _ q1, uL_V]
theorem uFact_x (u : eV) (n c : Nat) : cha (uFact u n c) (nF u) = c ∧ nam (uFact u n c) (nF u) = n := by
  constructor
  · show (upV (upV (upV (upL u 1 0 (dbl (com u) (nF u))) 1 (nF u) c) 18 (nF u) n) 0 0 (nF u + 1)).1 1 (nF u) = c
    rw [up_o _ _ _ _ _ _ (by omega), up_o _ _ _ _ _ _ (by omega), up_e]
  · show (upV (upV (upV (upL u 1 0 (dbl (com u) (nF u))) 1 (nF u) c) 18 (nF u) n) 0 0 (nF u + 1)).1 18 (nF u) = n
    rw [up_o _ _ _ _ _ _ (by omega), up_e]
theorem uPlac_g (u : eV) (n c a k : Nat) (q0 : a ≠ 0) (q1 : ¬ (a = 2 ∧ k = nPl u)) (q2 : ¬ (a = 18 ∧ k = 6 + nPl u)) : (uPlac u n c).1 a k = u.1 a k := by
  show (upV (upV (upV u 2 (nPl u) c) 18 (6 + nPl u) n) 0 1 (nPl u + 1)).1 a k = _
  rw [up_o _ _ _ _ _ _ (by omega), up_o _ _ _ _ _ _ q2, up_o _ _ _ _ _ _ q1]
theorem uPlac_x (u : eV) (n c : Nat) : bea (uPlac u n c) (nPl u) = c ∧ plc (uPlac u n c) (nPl u) = n := by
  constructor
  · show (upV (upV (upV u 2 (nPl u) c) 18 (6 + nPl u) n) 0 1 (nPl u + 1)).1 2 (nPl u) = c
    rw [up_o _ _ _ _ _ _ (by omega), up_o _ _ _ _ _ _ (by omega), up_e]
  · show (upV (upV (upV u 2 (nPl u) c) 18 (6 + nPl u) n) 0 1 (nPl u + 1)).1 18 (6 + nPl u) = n
    rw [up_o _ _ _ _ _ _ (by omega), up_e]
theorem uPers_g (u : eV) (n q k a j : Nat) (q0 : a ≠ 0) (q1 : ¬ (a = 3 ∧ j = nP u)) (q2 : ¬ (a = 4 ∧ j = nP u)) (q3 : ¬ (a = 18 ∧ j = 12 + nP u)) : (uPers u n q k).1 a j = u.1 a j := by
  show (upV (upV (upV (upV u 3 (nP u) q) 4 (nP u) k) 18 (12 + nP u) n) 0 2 (nP u + 1)).1 a j = _
  rw [up_o _ _ _ _ _ _ (by omega), up_o _ _ _ _ _ _ q3, up_o _ _ _ _ _ _ q2, up_o _ _ _ _ _ _ q1]
theorem uPers_x (u : eV) (n q k : Nat) : hom (uPers u n q k) (nP u) = q ∧ kno (uPers u n q k) (nP u) = k ∧ prs (uPers u n q k) (nP u) = n := by
  refine ⟨?_, ?_, ?_⟩
  · show (upV (upV (upV (upV u 3 (nP u) q) 4 (nP u) k) 18 (12 + nP u) n) 0 2 (nP u + 1)).1 3 (nP u) = q
    rw [up_o _ _ _ _ _ _ (by omega), up_o _ _ _ _ _ _ (by omega), up_o _ _ _ _ _ _ (by omega), up_e]
  · show (upV (upV (upV (upV u 3 (nP u) q) 4 (nP u) k) 18 (12 + nP u) n) 0 2 (nP u + 1)).1 4 (nP u) = k
    rw [up_o _ _ _ _ _ _ (by omega), up_o _ _ _ _ _ _ (by omega), up_e]
  · show (upV (upV (upV (upV u 3 (nP u) q) 4 (nP u) k) 18 (12 + nP u) n) 0 2 (nP u + 1)).1 18 (12 + nP u) = n
    rw [up_o _ _ _ _ _ _ (by omega), up_e]
theorem uFact_c (u : eV) (n c k : Nat) : cmS (uFact u n c) k = cmS u k := by
  show (if 2 = 1 ∧ k = 0 then dbl (com u) (nF u) else u.2 2 k) = u.2 2 k
  rw [if_neg (by omega)]
theorem uComm_c (u : eV) (v : Nat → Int32) (k : Nat) : cmS (uComm u v) k = if k = nCm u then woN 6 v else cmS u k := by
  show (if 2 = 1 ∧ k = 0 then com u &&& woN (nF u) v else if 2 = 2 ∧ k = nCm u then woN 6 v else u.2 2 k) = _
  rw [if_neg (by omega)]
  by_cases z : k = nCm u
  · rw [if_pos ⟨rfl, z⟩, if_pos z]
  · rw [if_neg (fun q => z q.2), if_neg z]; rfl
theorem uCock_g (u : eV) (c l t a j : Nat) (q0 : ¬ (5 ≤ a ∧ a ≤ 7)) (q1 : a ≠ 19) : (uCock u c l t).1 a j = u.1 a j := by
  show (upV (upV (upV (upV u 5 c l) 6 c t) 7 c 1) 19 c 1).1 a j = _
  rw [up_o _ _ _ _ _ _ (by omega), up_o _ _ _ _ _ _ (by omega), up_o _ _ _ _ _ _ (by omega), up_o _ _ _ _ _ _ (by omega)]
theorem uCock_x (u : eV) (c l t x : Nat) : lawV (uCock u c l t) x = (if x = c then l else lawV u x) ∧ lat (uCock u c l t) x = (if x = c then t else lat u x) ∧ isc (uCock u c l t) x = (if x = c then 1 else isc u x) ∧ tol (uCock u c l t) x = (if x = c then 1 else tol u x) := by
  refine ⟨?_, ?_, ?_, ?_⟩
  · show (upV (upV (upV (upV u 5 c l) 6 c t) 7 c 1) 19 c 1).1 5 x = _
    rw [up_o _ _ _ _ _ _ (by omega), up_o _ _ _ _ _ _ (by omega), up_o _ _ _ _ _ _ (by omega)]
    by_cases z : x = c
    · rw [if_pos z, z, up_e]
    · rw [if_neg z, up_o _ _ _ _ _ _ (by omega)]; rfl
  · show (upV (upV (upV (upV u 5 c l) 6 c t) 7 c 1) 19 c 1).1 6 x = _
    rw [up_o _ _ _ _ _ _ (by omega), up_o _ _ _ _ _ _ (by omega)]
    by_cases z : x = c
    · rw [if_pos z, z, up_e]
    · rw [if_neg z, up_o _ _ _ _ _ _ (by omega), up_o _ _ _ _ _ _ (by omega)]; rfl
  · show (upV (upV (upV (upV u 5 c l) 6 c t) 7 c 1) 19 c 1).1 7 x = _
    rw [up_o _ _ _ _ _ _ (by omega)]
    by_cases z : x = c
    · rw [if_pos z, z, up_e]
    · rw [if_neg z, up_o _ _ _ _ _ _ (by omega), up_o _ _ _ _ _ _ (by omega), up_o _ _ _ _ _ _ (by omega)]; rfl
  · show (upV (upV (upV (upV u 5 c l) 6 c t) 7 c 1) 19 c 1).1 19 x = _
    by_cases z : x = c
    · rw [if_pos z, z, up_e]
    · rw [if_neg z, up_o _ _ _ _ _ _ (by omega), up_o _ _ _ _ _ _ (by omega), up_o _ _ _ _ _ _ (by omega), up_o _ _ _ _ _ _ (by omega)]; rfl
theorem n210 (m : eM) (i x : Nat) (a j : Nat) (h : ¬ (a = 210 ∧ j = i)) : gI (sI m 210 i (nI x)) a j = gI m a j := by rw [gI_sI, if_neg h]
theorem Mu_fact {u : eV} {m : eM} (h : Mu u m) (hF6 : nF u < 6) {n c : Nat} (h1 : gL m 211 (18 + nF u) = lN n) (h2 : gI m 212 (6 + nF u) = nI c) : Mu (uFact u n c) (sI m 210 3 (nI (nF u + 1))) := by
  obtain ⟨⟨a1, a2, a3, a4⟩, b, cc, d, e, g'⟩ := h
  obtain ⟨x1, x2⟩ := uFact_x u n c
  refine ⟨⟨gI_w _ _ _ _, (n210 _ _ _ _ _ (by omega)).trans a2, (n210 _ _ _ _ _ (by omega)).trans a3, (n210 _ _ _ _ _ (by omega)).trans a4⟩, fun j hj => ?_, fun j hj => ?_, fun j hj => ?_, fun x hx => ?_, fun k hk => ?_⟩
  · have hj : j < nF u + 1 := hj
    rw [n210 _ _ _ _ _ (by omega), gL_sI]
    by_cases z : j = nF u
    · rw [z, x1, x2]; exact ⟨h1, h2⟩
    · rw [show nam (uFact u n c) j = nam u j from uFact_g u n c 18 j (by decide) (by omega) (by omega), show cha (uFact u n c) j = cha u j from uFact_g u n c 1 j (by decide) (by omega) (by omega)]
      exact b j (by omega)
  · have hj : j < nPl u := hj
    rw [n210 _ _ _ _ _ (by omega), gL_sI, show plc (uFact u n c) j = plc u j from uFact_g u n c 18 (6 + j) (by decide) (by omega) (by omega), show bea (uFact u n c) j = bea u j from uFact_g u n c 2 j (by decide) (by omega) (by omega)]
    exact cc j hj
  · have hj : j < nP u := hj
    rw [n210 _ _ _ _ _ (by omega), n210 _ _ _ _ _ (by omega), gL_sI, show prs (uFact u n c) j = prs u j from uFact_g u n c 18 (12 + j) (by decide) (by omega) (by omega), show hom (uFact u n c) j = hom u j from uFact_g u n c 3 j (by decide) (by omega) (by omega), show kno (uFact u n c) j = kno u j from uFact_g u n c 4 j (by decide) (by omega) (by omega)]
    exact d j hj
  · rw [n210 _ _ _ _ _ (by omega), n210 _ _ _ _ _ (by omega), n210 _ _ _ _ _ (by omega), n210 _ _ _ _ _ (by omega), show lawV (uFact u n c) x = lawV u x from uFact_g u n c 5 x (by decide) (by omega) (by omega), show lat (uFact u n c) x = lat u x from uFact_g u n c 6 x (by decide) (by omega) (by omega), show isc (uFact u n c) x = isc u x from uFact_g u n c 7 x (by decide) (by omega) (by omega), show tol (uFact u n c) x = tol u x from uFact_g u n c 19 x (by decide) (by omega) (by omega)]
    exact e x hx
  · rw [uFact_c, gL_sI]; exact g' k hk
theorem Mu_plac {u : eV} {m : eM} (h : Mu u m) (hF : nF u ≤ 6) {n c : Nat} (h1 : gL m 211 (24 + nPl u) = lN n) (h2 : gI m 213 (6 + nPl u) = nI c) (hP6 : nPl u < 6) : Mu (uPlac u n c) (sI m 210 4 (nI (nPl u + 1))) := by
  obtain ⟨⟨a1, a2, a3, a4⟩, b, cc, d, e, g'⟩ := h
  obtain ⟨x1, x2⟩ := uPlac_x u n c
  refine ⟨⟨(n210 _ _ _ _ _ (by omega)).trans a1, gI_w _ _ _ _, (n210 _ _ _ _ _ (by omega)).trans a3, (n210 _ _ _ _ _ (by omega)).trans a4⟩, fun j hj => ?_, fun j hj => ?_, fun j hj => ?_, fun x hx => ?_, fun k hk => ?_⟩
  · have hj : j < nF u := hj
    rw [n210 _ _ _ _ _ (by omega), gL_sI, show nam (uPlac u n c) j = nam u j from uPlac_g u n c 18 j (by decide) (by omega) (by omega), show cha (uPlac u n c) j = cha u j from uPlac_g u n c 1 j (by decide) (by omega) (by omega)]
    exact b j hj
  · have hj : j < nPl u + 1 := hj
    rw [n210 _ _ _ _ _ (by omega), gL_sI]
    by_cases z : j = nPl u
    · rw [z, x1, x2]; exact ⟨h1, h2⟩
    · rw [show plc (uPlac u n c) j = plc u j from uPlac_g u n c 18 (6 + j) (by decide) (by omega) (by omega), show bea (uPlac u n c) j = bea u j from uPlac_g u n c 2 j (by decide) (by omega) (by omega)]
      exact cc j (by omega)
  · have hj : j < nP u := hj
    rw [n210 _ _ _ _ _ (by omega), n210 _ _ _ _ _ (by omega), gL_sI, show prs (uPlac u n c) j = prs u j from uPlac_g u n c 18 (12 + j) (by decide) (by omega) (by omega), show hom (uPlac u n c) j = hom u j from uPlac_g u n c 3 j (by decide) (by omega) (by omega), show kno (uPlac u n c) j = kno u j from uPlac_g u n c 4 j (by decide) (by omega) (by omega)]
    exact d j hj
  · rw [n210 _ _ _ _ _ (by omega), n210 _ _ _ _ _ (by omega), n210 _ _ _ _ _ (by omega), n210 _ _ _ _ _ (by omega), show lawV (uPlac u n c) x = lawV u x from uPlac_g u n c 5 x (by decide) (by omega) (by omega), show lat (uPlac u n c) x = lat u x from uPlac_g u n c 6 x (by decide) (by omega) (by omega), show isc (uPlac u n c) x = isc u x from uPlac_g u n c 7 x (by decide) (by omega) (by omega), show tol (uPlac u n c) x = tol u x from uPlac_g u n c 19 x (by decide) (by omega) (by omega)]
    exact e x hx
  · rw [gL_sI]; exact g' k hk
theorem Mu_pers {u : eV} {m : eM} (h : Mu u m) (hF : nF u ≤ 6) (hPl : nPl u ≤ 6) {n q k : Nat} (h1 : gL m 211 (30 + nP u) = lN n) (h2 : gI m 214 (6 + nP u) = nI q) (h3 : gI m 215 (6 + nP u) = nI k) : Mu (uPers u n q k) (sI m 210 5 (nI (nP u + 1))) := by
  obtain ⟨⟨a1, a2, a3, a4⟩, b, cc, d, e, g'⟩ := h
  obtain ⟨x1, x2, x3⟩ := uPers_x u n q k
  refine ⟨⟨(n210 _ _ _ _ _ (by omega)).trans a1, (n210 _ _ _ _ _ (by omega)).trans a2, gI_w _ _ _ _, (n210 _ _ _ _ _ (by omega)).trans a4⟩, fun j hj => ?_, fun j hj => ?_, fun j hj => ?_, fun x hx => ?_, fun y hy => ?_⟩
  · have hj : j < nF u := hj
    rw [n210 _ _ _ _ _ (by omega), gL_sI, show nam (uPers u n q k) j = nam u j from uPers_g u n q k 18 j (by decide) (by omega) (by omega) (by omega), show cha (uPers u n q k) j = cha u j from uPers_g u n q k 1 j (by decide) (by omega) (by omega) (by omega)]
    exact b j hj
  · have hj : j < nPl u := hj
    rw [n210 _ _ _ _ _ (by omega), gL_sI, show plc (uPers u n q k) j = plc u j from uPers_g u n q k 18 (6 + j) (by decide) (by omega) (by omega) (by omega), show bea (uPers u n q k) j = bea u j from uPers_g u n q k 2 j (by decide) (by omega) (by omega) (by omega)]
    exact cc j hj
  · have hj : j < nP u + 1 := hj
    rw [n210 _ _ _ _ _ (by omega), n210 _ _ _ _ _ (by omega), gL_sI]
    by_cases z : j = nP u
    · rw [z, x1, x2, x3]; exact ⟨h1, h2, h3⟩
    · rw [show prs (uPers u n q k) j = prs u j from uPers_g u n q k 18 (12 + j) (by decide) (by omega) (by omega) (by omega), show hom (uPers u n q k) j = hom u j from uPers_g u n q k 3 j (by decide) (by omega) (by omega) (by omega), show kno (uPers u n q k) j = kno u j from uPers_g u n q k 4 j (by decide) (by omega) (by omega) (by omega)]
      exact d j (by omega)
  · rw [n210 _ _ _ _ _ (by omega), n210 _ _ _ _ _ (by omega), n210 _ _ _ _ _ (by omega), n210 _ _ _ _ _ (by omega), show lawV (uPers u n q k) x = lawV u x from uPers_g u n q k 5 x (by decide) (by omega) (by omega) (by omega), show lat (uPers u n q k) x = lat u x from uPers_g u n q k 6 x (by decide) (by omega) (by omega) (by omega), show isc (uPers u n q k) x = isc u x from uPers_g u n q k 7 x (by decide) (by omega) (by omega) (by omega), show tol (uPers u n q k) x = tol u x from uPers_g u n q k 19 x (by decide) (by omega) (by omega) (by omega)]
    exact e x hx
  · rw [gL_sI]; exact g' y hy
/-! the lines -/
theorem PT.i {s : eTp} {b : Nat} {m : eM} (h : PT s b m) {a j : Nat} (x : Int32) (h1 : ¬ (a = 208 ∧ j < 9)) (h2 : a ≠ 209 ∧ a ≠ 221) : PT s b (sI m a j x) := by
  have f : Fr (fun c k => c == a && k == j) m (sI m a j x) := Fr.rfl'.i (by simp)
  refine h.fr f (fun k hk => ?_) (fun k => ?_) ?_
  · by_cases z : a = 208
    · have : k ≠ j := by omega
      simp [this]
    · simp [Ne.symm z]
  · simp [Ne.symm h2.1]
  · simp [Ne.symm h2.2]
theorem PT.l {s : eTp} {b : Nat} {m : eM} (h : PT s b m) {a j : Nat} (x : Int64) (h1 : a ≠ 208) (h2 : a ≠ 209 ∧ a ≠ 221) : PT s b (sL m a j x) := by
  have f : Fr (fun c k => c == a && k == j) m (sL m a j x) := Fr.rfl'.l (by simp)
  refine h.fr f (fun k hk => ?_) (fun k => ?_) ?_
  · simp [Ne.symm h1]
  · simp [Ne.symm h2.1]
  · simp [Ne.symm h2.2]
theorem x6 {n : Nat} (h : n ≤ 6) : (nI n = 6) = (n = 6) := by rw [show (6 : Int32) = nI 6 from rfl, n_eq (by omega) (by omega)]
theorem Mo_readsFact_s {s : eTp} {u : eV} {b : Nat} {m : eM} (h : PT s b m) (hu : Mu u m) (hV : Vu u) {D : Nat} (hD : 5 ≤ D) : liM s m (Mo_readsFact D 208 m) (lnF s u b) := by
  obtain ⟨d, rfl⟩ : ∃ d, D = d + 1 := ⟨D - 1, by omega⟩
  have hF := hV.1.1
  have hPl := hV.1.2.1
  have hP := hV.1.2.2.1
  rw [Mo_readsFact_e _ _ _ kd_208, rf_208_10 h.1.1, bR_s, show (3 : Int32) = nI 3 from rfl, ga_210 (by decide), n_cl (by decide), hu.1.1]
  unfold lnF
  by_cases z6 : nF u = 6
  · rw [if_neg (fun q => q (by rw [x6 hF]; exact z6)), show (5 : Int32) = nI 5 from rfl, (h.bad 5 d).1, bI_y, yB0]
    unfold stL
    rw [if_pos (show 6 ≤ nF u by omega)]
    exact lm_e (h.bad 5 d).2 rfl (gI_w _ _ _ _)
  · rw [if_pos (by rw [x6 hF]; exact z6)]
    refine lm_sl (kind := 0) h hu hV (by decide) (by omega) hu.1.1 (fun j hj => by omega) (fun j hj => by omega) (fun j hj => by omega) (D := d) (by omega) (fun b1 m1 z1 i2 c1 u1 n1 => ?_) (fun m' => k0a)
    have n1 : gL m1 211 (18 + nF u) = lN (tW s b1) := n1
    rw [k1a, rf_208_10 c1.1.1, bR_s, ga_210 (by decide), u1.1.1, show (6 : Int32) = nI 6 from rfl, nI_add, lI_u, rf_208_12 c1.1.1, bR_s, gw_212 (by omega), mI_u, n_cl (by omega), show (5 : Int32) = nI 5 from rfl]
    have fA : Fr (fun a j => a == 212 && j == 6 + nF u) m1 (sI m1 212 (6 + nF u) (nI 5)) := Fr.rfl'.i (by simp)
    have c2 : PT s (tX s b1) (sI m1 212 (6 + nF u) (nI 5)) := c1.i _ (by omega) (by decide)
    have uS : ∀ (m2 : eM) (x : Int32), Mu u m2 → Mu u (sI m2 212 (6 + nF u) x) := fun m2 x q => by
      obtain ⟨a, b', cc, dd, e, g⟩ := q
      refine ⟨a, fun j hj => ?_, cc, dd, e, g⟩
      rw [gI_sI, if_neg (by omega)]; exact b' j hj
    have u2 := uS m1 (nI 5) u1
    have fS : ∀ (m2 : eM) (x : Int32), Fr sNr m2 (sI m2 212 (6 + nF u) x) := fun m2 x => Fr.rfl'.i (decide_eq_true (by omega))
    refine liM.up (fS m1 (nI 5)) ?_
    have n2 : gL (sI m1 212 (6 + nF u) (nI 5)) 211 (18 + nF u) = lN (tW s b1) := n1
    have v2 : gI (sI m1 212 (6 + nF u) (nI 5)) 212 (6 + nF u) = nI 5 := gI_w _ _ _ _
    generalize sI m1 212 (6 + nF u) (nI 5) = m2 at c2 u2 n2 v2 ⊢
    have fin : ∀ (b3 c : Nat) (m3 : eM), PT s b3 m3 → Mu u m3 → gL m3 211 (18 + nF u) = lN (tW s b1) → gI m3 212 (6 + nF u) = nI c → liM s m3 (bR (gR m3 208 10) fun r11 => ga m3 r11 20 (nI 3) (gw m3 r11 20 (nI 3) (mI m3 r11 (nI 3).toNatClampNeg ((gI m3 r11 (nI 3).toNatClampNeg) + (1 : Int32)) fun m12 => bI (Mo_ends d 208 m12) fun v14 m13 => yB v14 m13))) (sb (rqS s 59 b3) fun b5 => .inr (b5, uFact u (tW s b1) c)) := fun b3 c m3 q1 q2 q3 q4 => by
      rw [rf_208_10 q1.1.1, bR_s, ga_210 (by decide), gw_210 (by decide), n_cl (by decide), q2.1.1, nI_1, mI_u]
      refine liM.up (Fr.rfl'.i (a := 210) (j := 3) (v := nI (nF u + 1)) rfl) ?_
      exact lm_en (q1.i _ (by omega) (by decide)) (Mu_fact q2 (by omega) q3 q4) (by omega)
    rw [show (47328224 : Int64) = lN 47328224 from rfl, Mo_isWord_s c2.2.1 (by decide), bI_y]
    by_cases zc : tkW s (tX s b1) 47328224 = true
    · rw [zc, if_neg bt0, if_pos rfl]
      refine lm_nt c2 (by omega) fun m3 f3 c3 => ?_
      rw [show (10 : Int32) = nI 10 from rfl]
      refine lm_nu c3 (by omega) (by decide) (fun b4 z4 n3 n4 n5 n8 => ?_) (fun m' => k0a)
      have u3 := u2.tm f3
      rw [k1a, rf_208_12 c3.1.1, bR_s, gw_212 (by omega), mI_u, n8]
      refine liM.up (fS m3 (nI (tN s (tX s (tX s b1))))) ?_
      refine lm_nt (c3.i _ (by omega) (by decide)) (by omega) fun m5 f5 c5 => ?_
      rw [← n5] at c5
      exact fin b4 _ m5 c5 ((uS m3 _ u3).tm f5) ((f5.2.1 _ _ (sTm_n (by omega))).trans ((f3.2.1 _ _ (sTm_n (by omega))).trans n2)) ((f5.1 _ _ (sTm_n (by omega))).trans (gI_w _ _ _ _))
    · rw [Bool.eq_false_iff.mpr zc, if_pos bf0, if_neg (by decide)]
      exact fin _ 5 m2 c2 u2 n2 v2
theorem Mo_readsPlace_s {s : eTp} {u : eV} {b : Nat} {m : eM} (h : PT s b m) (hu : Mu u m) (hV : Vu u) {D : Nat} (hD : 5 ≤ D) : liM s m (Mo_readsPlace D 208 m) (lnPl s u b) := by
  obtain ⟨d, rfl⟩ : ∃ d, D = d + 1 := ⟨D - 1, by omega⟩
  have hF := hV.1.1
  have hPl := hV.1.2.1
  have hP := hV.1.2.2.1
  rw [Mo_readsPlace_e _ _ _ kd_208, rf_208_10 h.1.1, bR_s, show (4 : Int32) = nI 4 from rfl, ga_210 (by decide), n_cl (by decide), hu.1.2.1]
  unfold lnPl
  by_cases z6 : nPl u = 6
  · rw [if_neg (fun q => q (by rw [x6 hPl]; exact z6)), show (5 : Int32) = nI 5 from rfl, (h.bad 5 d).1, bI_y, yB0]
    unfold stL
    rw [if_pos (show 6 ≤ nPl u by omega)]
    exact lm_e (h.bad 5 d).2 rfl (gI_w _ _ _ _)
  · rw [if_pos (by rw [x6 hPl]; exact z6)]
    refine lm_sl (kind := 1) h hu hV (by decide) (by omega) hu.1.2.1 (fun j hj => by omega) (fun j hj => by omega) (fun j hj => by omega) (D := d) (by omega) (fun b1 m1 z1 i2 c1 u1 n1 => ?_) (fun m' => k0b)
    have n1 : gL m1 211 (24 + nPl u) = lN (tW s b1) := n1
    rw [k1b, show (847478194 : Int64) = lN 847478194 from rfl]
    refine lm_re (c1.W (D := d) (by omega) (by decide)) (fun b3 m3 f3 c3 z3 => ?_) (fun m' => k0b)
    have u3 := u1.tm f3
    have n3' : gL m3 211 (24 + nPl u) = lN (tW s b1) := (f3.2.1 _ _ (sTm_n (by omega))).trans n1
    rw [k1b, show (359 : Int32) = nI 359 from rfl]
    refine lm_nu c3 (by omega) (by decide) (fun b4 z4 n3 n4 n5 n8 => ?_) (fun m' => k0a)
    rw [k1a, rf_208_13 c3.1.1, bR_s, rf_208_10 c3.1.1, bR_s, ga_210 (by decide), u3.1.2.1, show (6 : Int32) = nI 6 from rfl, nI_add, gw_213 (by omega), mI_u, n_cl (by omega), n8]
    have c4 : PT s b3 (sI m3 213 (6 + nPl u) (nI (tN s b3))) := c3.i _ (by omega) (by decide)
    have u4 : Mu u (sI m3 213 (6 + nPl u) (nI (tN s b3))) := by
      obtain ⟨a, b', cc, dd, e, g⟩ := u3
      refine ⟨a, b', fun j hj => ?_, dd, e, g⟩
      rw [gI_sI, if_neg (by omega)]; exact cc j hj
    refine liM.up (Fr.rfl'.i (a := 213) (j := 6 + nPl u) (v := nI (tN s b3)) (decide_eq_true (by omega))) ?_
    have n4' : gL (sI m3 213 (6 + nPl u) (nI (tN s b3))) 211 (24 + nPl u) = lN (tW s b1) := n3'
    have v4 : gI (sI m3 213 (6 + nPl u) (nI (tN s b3))) 213 (6 + nPl u) = nI (tN s b3) := gI_w _ _ _ _
    generalize sI m3 213 (6 + nPl u) (nI (tN s b3)) = m4 at c4 u4 n4' v4 ⊢
    rw [rf_208_10 c4.1.1, bR_s, ga_210 (by decide), gw_210 (by decide), u4.1.2.1, nI_1, mI_u]
    refine liM.up (Fr.rfl'.i (a := 210) (j := 4) (v := nI (nPl u + 1)) rfl) ?_
    refine lm_nt (c4.i _ (by omega) (by decide)) (by omega) fun m5 f5 c5 => ?_
    rw [← n5] at c5
    exact lm_en c5 ((Mu_plac u4 hF n4' v4 (by omega)).tm f5) (by omega)
theorem Mo_kn_s {s : eTp} {u : eV} (hV : Vu u) {q : Nat} {n : Nat} (hP6 : nP u < 6) (d : Nat) (hd : 2 ≤ d) : ∀ f b k w m, pc6 k = 7 - f → f ≤ 7 → k < 2 ^ nF u → PT s b m → Mu u m → gL m 211 (30 + nP u) = lN n → gI m 214 (6 + nP u) = nI q → gI m 215 (6 + nP u) = nI k → liM s m (Mo_readsPerson_113 (d + 1) 208 (nI (6 + nP u)) w m) (sb (knL s u f b k) fun r => sb (rqS s 59 r.1) fun b6 => .inr (b6, uPers u n q r.2))
  | 0, b, k, w, m, e, hf, hk, h, hu, h1, h2, h3 => by
    have := pc6_l k
    omega
  | f + 1, b, k, w, m, e, hf, hk, h, hu, h1, h2, h3 => by
    have hF := hV.1.1
    have hPl := hV.1.2.1
    have hk64 : k < 64 := Nat.lt_of_lt_of_le hk (Nat.pow_le_pow_right (n := 2) (i := nF u) (j := 6) (by decide) hF)
    rw [Mo_readsPerson_113_e _ _ _ _ _ kd_208, Mo_isKept_s h.2.1, bI_y]
    unfold knL
    by_cases z : tkN s b = true
    · have hk2 := (tkN_k z).1
      rw [z, Bool.not_true, if_neg nbf0, if_pos rfl, Mu.fF hV hu h hk2, bI_y]
      cases y : fnd (nam u) (nF u) (tW s b) with
      | none =>
        dsimp only
        rw [if_neg (show ¬ 0 ≤ pO none by decide), show (2 : Int32) = nI 2 from rfl, (h.bad 2 d).1, bI_y, yB0]
        exact lm_e (h.bad 2 d).2 rfl (gI_w _ _ _ _)
      | some j =>
        have hj := fnd_lt y
        dsimp only
        have hbit : (nI k >>> (pO (some j) &&& 31)) &&& (1 : Int32) = bb (k.testBit j) := bitI (by omega) (by omega)
        rw [if_pos (pO_ge (by omega)), rf_208_15 h.1.1, bR_s, ga_215 (by omega), n_cl (by omega), h3, hbit]
        by_cases x : k.testBit j = true
        · rw [x, if_pos (show true = true from rfl), if_neg (show ¬ ¬ bb true = 1 from fun q => q rfl), show (3 : Int32) = nI 3 from rfl, (h.bad 3 d).1, bI_y, yB0]
          exact lm_e (h.bad 3 d).2 rfl (gI_w _ _ _ _)
        · have x' := Bool.eq_false_iff.mpr x
          have ho : nI k ||| ((1 : Int32) <<< (pO (some j) &&& 31)) = nI (k ||| 2 ^ j) := by
            show nI k ||| ((1 : Int32) <<< (nI j &&& 31)) = _
            rw [shl1 j (by omega), orN]
          rw [x', if_neg (show ¬ false = true by decide), if_pos (show ¬ bb false = 1 by decide), bR_s, ga_215 (by omega), gw_215 (by omega), mI_u, h3, ho]
          have c2 : PT s b (sI m 215 (6 + nP u) (nI (k ||| 2 ^ j))) := h.i _ (by omega) (by decide)
          have u2 : Mu u (sI m 215 (6 + nP u) (nI (k ||| 2 ^ j))) := by
            obtain ⟨a, b', cc, dd, e, g⟩ := hu
            refine ⟨a, b', cc, fun i hi => ?_, e, g⟩
            obtain ⟨g1, g2, g3⟩ := dd i hi
            refine ⟨g1, g2, ?_⟩
            rw [gI_sI, if_neg (by omega)]; exact g3
          refine liM.up (Fr.rfl'.i (a := 215) (j := 6 + nP u) (v := nI (k ||| 2 ^ j)) (decide_eq_true (by omega))) ?_
          refine lm_nt c2 (by omega) fun m3 f3 c3 => ?_
          have hpc := pc6_a k hk64 j (by omega) x'
          exact Mo_kn_s hV hP6 d hd f (tX s b) (k ||| 2 ^ j) _ m3 (by omega) (by omega) (Nat.or_lt_two_pow hk (Nat.pow_lt_pow_right (by decide) hj)) c3 (u2.tm f3) ((f3.2.1 _ _ (sTm_n (by omega))).trans h1) ((f3.1 _ _ (sTm_n (by omega))).trans h2) ((f3.1 _ _ (sTm_n (by omega))).trans (gI_w _ _ _ _))
    · rw [Bool.eq_false_iff.mpr z, Bool.not_false, if_pos bt0, if_neg (by decide), rf_208_10 h.1.1, bR_s, show (5 : Int32) = nI 5 from rfl, ga_210 (by decide), gw_210 (by decide), n_cl (by decide), hu.1.2.2.1, nI_1, mI_u]
      refine liM.up (Fr.rfl'.i (a := 210) (j := 5) (v := nI (nP u + 1)) rfl) ?_
      show liM s _ _ (sb (rqS s 59 b) fun b6 => .inr (b6, uPers u n q k))
      exact lm_en (h.i _ (by omega) (by decide)) (Mu_pers hu hF hPl h1 h2 h3) (by omega)
theorem Mo_readsPerson_s {s : eTp} {u : eV} {b : Nat} {m : eM} (h : PT s b m) (hu : Mu u m) (hV : Vu u) {D : Nat} (hD : 5 ≤ D) : liM s m (Mo_readsPerson D 208 m) (lnPe s u b) := by
  obtain ⟨d, rfl⟩ : ∃ d, D = d + 1 := ⟨D - 1, by omega⟩
  have hF := hV.1.1
  have hPl := hV.1.2.1
  have hP := hV.1.2.2.1
  rw [Mo_readsPerson_e _ _ _ kd_208, rf_208_10 h.1.1, bR_s, show (5 : Int32) = nI 5 from rfl, ga_210 (by decide), n_cl (by decide), hu.1.2.2.1]
  unfold lnPe
  by_cases z6 : nP u = 6
  · rw [if_neg (fun q => q (by rw [x6 hP]; exact z6)), (h.bad 5 d).1, bI_y, yB0]
    unfold stL
    rw [if_pos (show 6 ≤ nP u by omega)]
    exact lm_e (h.bad 5 d).2 rfl (gI_w _ _ _ _)
  · rw [if_pos (by rw [x6 hP]; exact z6)]
    refine lm_sl (kind := 2) h hu hV (by decide) (by omega) hu.1.2.2.1 (fun j hj => by omega) (fun j hj => by omega) (fun j hj => by omega) (D := d) (by omega) (fun b1 m1 z1 i2 c1 u1 n1 => ?_) (fun m' => k0b)
    have n1 : gL m1 211 (30 + nP u) = lN (tW s b1) := n1
    rw [k1b, show (47 : Int64) = lN 47 from rfl]
    refine lm_re (c1.W (D := d) (by omega) (by decide)) (fun b3 m3 f3 c3 z3 => ?_) (fun m' => k0a)
    have u3 := u1.tm f3
    have n3' : gL m3 211 (30 + nP u) = lN (tW s b1) := (f3.2.1 _ _ (sTm_n (by omega))).trans n1
    rw [k1a, Mo_isKept_s c3.2.1, bI_y]
    by_cases z : tkN s b3 = true
    · have hk2 := (tkN_k z).1
      rw [z, Bool.not_true, if_pos bf0, if_pos rfl, rf_208_10 c3.1.1, bR_s, ga_210 (by decide), u3.1.2.2.1, show (6 : Int32) = nI 6 from rfl, nI_add, lI_u, rf_208_14 c3.1.1, bR_s, Mu.fP hV u3 c3 hk2, bI_y, gw_214 (by omega), mI_u, n_cl (by omega)]
      have c4 : PT s b3 (sI m3 214 (6 + nP u) (pO (fnd (plc u) (nPl u) (tW s b3)))) := c3.i _ (by omega) (by decide)
      rw [rf_208_15 c4.1.1, bR_s, gw_215 (by omega), mI_u]
      have c5 : PT s b3 (sI (sI m3 214 (6 + nP u) (pO (fnd (plc u) (nPl u) (tW s b3)))) 215 (6 + nP u) 0) := c4.i _ (by omega) (by decide)
      have u5 : Mu u (sI (sI m3 214 (6 + nP u) (pO (fnd (plc u) (nPl u) (tW s b3)))) 215 (6 + nP u) 0) := by
        obtain ⟨a, b', cc, dd, e, g⟩ := u3
        refine ⟨a, b', cc, fun i hi => ?_, e, g⟩
        obtain ⟨g1, g2, g3⟩ := dd i hi
        refine ⟨g1, ?_, ?_⟩
        · rw [gI_sI, if_neg (by omega), gI_sI, if_neg (by omega)]; exact g2
        · rw [gI_sI, if_neg (by omega), gI_sI, if_neg (by omega)]; exact g3
      have f5 : Fr sNr m3 (sI (sI m3 214 (6 + nP u) (pO (fnd (plc u) (nPl u) (tW s b3)))) 215 (6 + nP u) 0) := (Fr.rfl'.i (decide_eq_true (by omega))).i (decide_eq_true (by omega))
      have v5 : gI (sI (sI m3 214 (6 + nP u) (pO (fnd (plc u) (nPl u) (tW s b3)))) 215 (6 + nP u) 0) 214 (6 + nP u) = pO (fnd (plc u) (nPl u) (tW s b3)) := by rw [gI_sI, if_neg (by omega), gI_w]
      have w5 : gI (sI (sI m3 214 (6 + nP u) (pO (fnd (plc u) (nPl u) (tW s b3)))) 215 (6 + nP u) 0) 215 (6 + nP u) = nI 0 := gI_w _ _ _ _
      have n5 : gL (sI (sI m3 214 (6 + nP u) (pO (fnd (plc u) (nPl u) (tW s b3)))) 215 (6 + nP u) 0) 211 (30 + nP u) = lN (tW s b1) := n3'
      refine liM.up f5 ?_
      generalize sI (sI m3 214 (6 + nP u) (pO (fnd (plc u) (nPl u) (tW s b3)))) 215 (6 + nP u) 0 = m5 at c5 u5 v5 w5 n5 ⊢
      rw [rf_208_14 c5.1.1, bR_s, ga_214 (by omega), v5]
      cases y : fnd (plc u) (nPl u) (tW s b3) with
      | none =>
        dsimp only
        rw [if_neg (show ¬ 0 ≤ pO none by decide), show (2 : Int32) = nI 2 from rfl, (c5.bad 2 d).1, bI_y, yB0]
        exact lm_e (c5.bad 2 d).2 rfl (gI_w _ _ _ _)
      | some g =>
        have hg := fnd_lt y
        rw [y] at v5
        dsimp only
        rw [if_pos (pO_ge (by omega))]
        refine lm_nt c5 (by omega) fun m6 f6 c6 => ?_
        have u6 := u5.tm f6
        rw [show (6132988 : Int64) = lN 6132988 from rfl]
        refine lm_re (c6.W (D := d) (by omega) (by decide)) (fun b7 m7 f7 c7 z7 => ?_) (fun m' => k0a)
        rw [k1a]
        have f67 := f6.tr f7
        exact Mo_kn_s hV (by omega) d (by omega) 7 b7 0 eU m7 (by decide) (by decide) (Nat.two_pow_pos _) c7 (u6.tm f7) ((f67.2.1 _ _ (sTm_n (by omega))).trans n5) ((f67.1 _ _ (sTm_n (by omega))).trans v5) ((f67.1 _ _ (sTm_n (by omega))).trans w5)
    · rw [Bool.eq_false_iff.mpr z, Bool.not_false, if_neg bt0, if_neg (by decide), show (1 : Int32) = nI 1 from rfl, (c3.bad 1 d).1, bI_y, yB0]
      exact lm_e (c3.bad 1 d).2 rfl (gI_w _ _ _ _)
theorem Mo_readsCommon_s {s : eTp} {u : eV} {b : Nat} {m : eM} (h : PT s b m) (hu : Mu u m) (hV : Vu u) {D : Nat} (hD : 6 ≤ D) : liM s m (Mo_readsCommon D 208 m) (lnCm s u b) := by
  obtain ⟨d, rfl⟩ : ∃ d, D = d + 1 := ⟨D - 1, by omega⟩
  have hF := hV.1.1
  have hC := hV.1.2.2.2
  have x4 : (nI (nCm u) = 4) = (nCm u = 4) := by rw [show (4 : Int32) = nI 4 from rfl, n_eq (by omega) (by omega)]
  rw [Mo_readsCommon_e _ _ _ kd_208, hu.1.2.2.2]
  unfold lnCm
  by_cases z : nCm u = 4
  · rw [if_neg (fun q => q (by rw [x4]; exact z)), if_pos (show 4 ≤ nCm u by omega), show (5 : Int32) = nI 5 from rfl, (h.bad 5 d).1, bI_y, yB0]
    exact lm_e (h.bad 5 d).2 rfl (gI_w _ _ _ _)
  · rw [if_pos (by rw [x4]; exact z), if_neg (show ¬ 4 ≤ nCm u by omega)]
    refine lm_nt h (by omega) fun m1 f1 c1 => ?_
    have u1 := hu.tm f1
    have hb1 := c1.2.2.1
    have hR := Mo_reads_s (D := d) (by omega) (s := s) (N := nam u) (n := nF u) (b := tX s b) hb1 ⟨⟨c1.1.1, c1.1.2⟩, c1.2.1, u1.1.1, hF, fun j hj => ⟨(u1.2.1 j hj).1, (hV.2.1.1 j hj).2⟩⟩ false
    have hR : (∀ e, pE s (nam u) (nF u) (tX s b) = .inl e → ∃ m', Fr sRe m1 m' ∧ Mo_reads d 208 (0 : Int32) m1 = yI 0 m' ∧ gI m' 208 9 = nI e) ∧ _ := hR
    cases y : pE s (nam u) (nF u) (tX s b) with
    | inl e =>
      obtain ⟨m2, f2, e2, r2⟩ := hR.1 e y
      rw [e2, bI_y, k0a]
      exact lm_e f2.reQ rfl r2
    | inr g =>
      obtain ⟨p1, p2, -, p3⟩ := pE_G s (nam u) (nF u) _ g hb1 y
      obtain ⟨hY, hX⟩ := hR.2 g y
      show liM s m1 _ (sb (rqS s 59 g.1) fun b5 => .inr (b5, uComm u g.2.2.2))
      by_cases x : tkS s g.1 59 = true
      · obtain ⟨m2, f2, e2, q2, r2⟩ := hY x
        have e2 : Mo_reads d 208 (0 : Int32) m1 = yI 1 m2 := e2
        have c2 : PT s g.1 m2 := ⟨q2.1, q2.2.1, p1, (f2.1 _ _ rfl).trans c1.2.2.2⟩
        have u2 : Mu u m2 := u1.fr f2 (fun a j q1 q2 => sRd_n (by omega) (by omega) (by omega) (by omega)) rfl
        have h1000 : s.1 ≤ 1000 := c1.1.2.2.1
        have hB := (tB_le p1).2
        obtain ⟨m3, f3, e3⟩ := Mo_soIn_s (pE_M (s := s) c1.1.2.2.2.2 hF y) (D := d) (by omega) (n := 6) (by decide) c2.1.1 c2.2.2.2 r2 (by omega) q2.2.2.1.2
        have c3 : PT s g.1 m3 := c2.fr f3 (fun _ _ => rfl) (fun _ => rfl) rfl
        have f3' : Fr (fun a _ => decide (225 ≤ a ∧ a ≤ 234)) m2 m3 := f3
        have u3 : Mu u m3 := u2.fr f3 (fun a j q1 q2 => decide_eq_false (by omega)) rfl
        have hcm := u2.1.2.2.2
        rw [e2, bI_y, k1a, rf_208_39 c2.1.1, bR_s, show (6 : Int32) = nI 6 from rfl, e3, bL_y, hcm, gw_236 (by omega), mJ_u, n_cl (by omega)]
        have hcm3 : gI (sL m3 236 (nCm u) (woN 6 g.2.2.2)) 208 38 = nI (nCm u) := u3.1.2.2.2
        rw [hcm3, nI_1, mI_u]
        have c5 : PT s g.1 (sI (sL m3 236 (nCm u) (woN 6 g.2.2.2)) 208 38 (nI (nCm u + 1))) := (c3.l (a := 236) (j := nCm u) _ (by decide) (by decide)).i _ (by omega) (by decide)
        have f5 : Fr sNr m3 (sI (sL m3 236 (nCm u) (woN 6 g.2.2.2)) 208 38 (nI (nCm u + 1))) := (Fr.rfl'.l rfl).i rfl
        have u5 : Mu (uComm u g.2.2.2) (sI (sL m3 236 (nCm u) (woN 6 g.2.2.2)) 208 38 (nI (nCm u + 1))) := by
          obtain ⟨⟨a1, a2, a3, a4⟩, b', cc, dd, e, gg⟩ := u3
          refine ⟨⟨a1, a2, a3, gI_w _ _ _ _⟩, b', cc, dd, e, fun k hk => ?_⟩
          have hk : k < nCm u + 1 := hk
          rw [uComm_c, gL_sI, gL_sL]
          by_cases w : k = nCm u
          · rw [if_pos ⟨rfl, w⟩, if_pos w]
          · rw [if_neg (fun q => w q.2), if_neg w]; exact gg k (by omega)
        exact liM.up ((f2.reQ.tr f3.soQ).tr f5) (lm_en c5 u5 (by omega))
      · obtain ⟨m2, f2, e2, r2⟩ := hX (Bool.eq_false_iff.mpr x)
        have e2 : Mo_reads d 208 (0 : Int32) m1 = yI 0 m2 := e2
        rw [e2, bI_y, k0a]
        unfold rqS
        rw [if_neg x]
        exact lm_e f2.reQ rfl r2
theorem Mo_readsCock_s {s : eTp} {u : eV} {b : Nat} {m : eM} (h : PT s b m) (hu : Mu u m) (hV : Vu u) {D : Nat} (hD : 5 ≤ D) : liM s m (Mo_readsCock D 208 m) (lnCk s u b) := by
  obtain ⟨d, rfl⟩ : ∃ d, D = d + 1 := ⟨D - 1, by omega⟩
  rw [Mo_readsCock_e _ _ _ kd_208]
  unfold lnCk
  refine lm_nt h (by omega) fun m1 f1 c1 => ?_
  have u1 := hu.tm f1
  rw [show (1 : Int32) = nI 1 from rfl]
  refine lm_nu c1 (by omega) (by decide) (fun b2 z2 n3 n4 n5 n8 => ?_) (fun m' => k0a)
  have htl := (hV.2.2.1 (tN s (tX s b)) (by omega)).2.2.2
  have k1a' : ∀ {A B : oX}, (if ¬ (nI 1) = 0 then A else B) = A := fun {A B} => if_pos ten1
  rw [k1a, n8, rf_208_36 c1.1.1, bR_s, ga_235 (by omega), n_cl (by omega), (u1.2.2.2.2.1 _ (by omega)).2.2.2]
  by_cases z : tol u (tN s (tX s b)) = 1
  · rw [if_neg (by rw [z]; decide), if_pos z, show (3 : Int32) = nI 3 from rfl, (c1.bad 3 d).1, bI_y, yB0]
    exact lm_e (c1.bad 3 d).2 rfl (gI_w _ _ _ _)
  · obtain ⟨c, hc⟩ : ∃ c, c = tN s (tX s b) := ⟨_, rfl⟩
    rw [← hc] at n4 z htl ⊢
    rw [if_pos (by rw [show tol u c = 0 by omega]; rfl), if_neg z, bR_s, gw_235 (by omega), mI_u]
    have c2 : PT s (tX s b) (sI m1 235 c ((nI 1) &&& nI 1)) := c1.i _ (by omega) (by decide)
    -- what stays: all but the row of this cock
    have key : ∀ m2, Mu u m1 → (∀ a j, ¬ ((216 ≤ a ∧ a ≤ 218 ∧ j = 2 + c) ∨ (a = 235 ∧ j = c)) → (210 ≤ a ∧ a ≤ 218 ∨ a = 235 ∨ a = 236 ∨ a = 208 ∧ j = 38) → gI m2 a j = gI m1 a j ∧ gL m2 a j = gL m1 a j) → ∀ l t, gI m2 216 (2 + c) = nI l → gI m2 217 (2 + c) = nI t → gI m2 218 (2 + c) = 1 → gI m2 235 c = 1 → Mu (uCock u c l t) m2 := fun m2 q hfr l t h1 h2 h3 h4 => by
      obtain ⟨⟨a1, a2, a3, a4⟩, b', cc, dd, e, gg⟩ := q
      have hg := uCock_g u c l t
      have e1 : nF (uCock u c l t) = nF u := rfl
      refine ⟨⟨(hfr _ _ (by omega) (by omega)).1.trans a1, (hfr _ _ (by omega) (by omega)).1.trans a2, (hfr _ _ (by omega) (by omega)).1.trans a3, (hfr _ _ (by omega) (by omega)).1.trans a4⟩, fun j hj => ?_, fun j hj => ?_, fun j hj => ?_, fun x hx => ?_, fun k hk => ?_⟩
      · rw [(hfr _ _ (by omega) (by omega)).2, (hfr _ _ (by omega) (by omega)).1, show nam (uCock u c l t) j = nam u j from hg 18 j (by decide) (by decide), show cha (uCock u c l t) j = cha u j from hg 1 j (by decide) (by decide)]
        exact b' j hj
      · rw [(hfr _ _ (by omega) (by omega)).2, (hfr _ _ (by omega) (by omega)).1, show plc (uCock u c l t) j = plc u j from hg 18 (6 + j) (by decide) (by decide), show bea (uCock u c l t) j = bea u j from hg 2 j (by decide) (by decide)]
        exact cc j hj
      · rw [(hfr _ _ (by omega) (by omega)).2, (hfr _ _ (by omega) (by omega)).1, (hfr _ _ (by omega) (by omega)).1, show prs (uCock u c l t) j = prs u j from hg 18 (12 + j) (by decide) (by decide), show hom (uCock u c l t) j = hom u j from hg 3 j (by decide) (by decide), show kno (uCock u c l t) j = kno u j from hg 4 j (by decide) (by decide)]
        exact dd j hj
      · obtain ⟨x1, x2, x3, x4⟩ := uCock_x u c l t x
        rw [x1, x2, x3, x4]
        by_cases w : x = c
        · rw [if_pos w, if_pos w, if_pos w, if_pos w, w]
          exact ⟨h1, h2, h3, h4⟩
        · rw [if_neg w, if_neg w, if_neg w, if_neg w, (hfr _ _ (by omega) (by omega)).1, (hfr _ _ (by omega) (by omega)).1, (hfr _ _ (by omega) (by omega)).1, (hfr _ _ (by omega) (by omega)).1]
          exact e x hx
      · rw [(hfr _ _ (by omega) (by omega)).2]; exact gg k hk
    refine liM.up (Fr.rfl'.i (a := 235) (j := c) (v := (nI 1) &&& nI 1) rfl) ?_
    refine lm_nt c2 (by omega) fun m3 f3 c3 => ?_
    rw [← n5] at c3
    rw [show (8798 : Int64) = lN 8798 from rfl]
    refine lm_re (c3.W (D := d) (by omega) (by decide)) (fun b3 m4 f4 c4 z4 => ?_) (fun m' => k0b)
    rw [k1b]
    refine lm_nu c4 (by omega) (by decide) (fun b4 z5 q3 q4 q5 q8 => ?_) (fun m' => k0a)
    rw [k1a, rf_208_16 c4.1.1, bR_s, show (2 : Int32) = nI 2 from rfl, nI_add, gw_216 (by omega), mI_u, n_cl (by omega), q8]
    refine liM.up (Fr.rfl'.i (a := 216) (j := 2 + c) (v := nI (tN s b3)) (decide_eq_true (by omega))) ?_
    refine lm_nt (c4.i (a := 216) (j := 2 + c) _ (by omega) (by decide)) (by omega) fun m5 f5 c5 => ?_
    rw [← q5] at c5
    rw [show (237470 : Int64) = lN 237470 from rfl]
    refine lm_re (c5.W (D := d) (by omega) (by decide)) (fun b5 m6 f6 c6 z6 => ?_) (fun m' => k0b)
    rw [k1b, show (60 : Int32) = nI 60 from rfl]
    refine lm_nu c6 (by omega) (by decide) (fun b6 z7 p3 p4 p5 p8 => ?_) (fun m' => k0a)
    rw [k1a, rf_208_17 c6.1.1, bR_s, gw_217 (by omega), mI_u, p8]
    have s7 : Sk (sI m6 217 (2 + c) (nI (tN s b5))) := c6.1.1
    rw [rf_208_18 s7, bR_s, gw_218 (by omega), mI_u]
    obtain ⟨m8, hm8⟩ : ∃ m8, m8 = sI (sI m6 217 (2 + c) (nI (tN s b5))) 218 (2 + c) ((nI 1) &&& nI 1) := ⟨_, rfl⟩
    rw [← hm8]
    have c8 : PT s b5 m8 := by
      rw [hm8]
      exact (c6.i (a := 217) (j := 2 + c) _ (by omega) (by decide)).i (a := 218) (j := 2 + c) _ (by omega) (by decide)
    have f8 : Fr sNr m6 m8 := by
      rw [hm8]
      exact (Fr.rfl'.i (decide_eq_true (by omega))).i (decide_eq_true (by omega))
    refine liM.up f8 ?_
    have t8 : ∀ a j, ¬ ((216 ≤ a ∧ a ≤ 218 ∧ j = 2 + c) ∨ (a = 235 ∧ j = c)) → a ≠ 208 ∨ j = 38 → gI m8 a j = gI m1 a j ∧ gL m8 a j = gL m1 a j := fun a j w1 w2 => by
      have n1 : sTm a j = false := sTm_n (by omega)
      refine ⟨?_, ?_⟩
      · rw [hm8, gI_sI, if_neg (by omega), gI_sI, if_neg (by omega), f6.1 _ _ n1, f5.1 _ _ n1, gI_sI, if_neg (by omega), f4.1 _ _ n1, f3.1 _ _ n1, gI_sI, if_neg (by omega)]
      · rw [hm8]
        show gL m6 a j = _
        rw [f6.2.1 _ _ n1, f5.2.1 _ _ n1]
        show gL m4 a j = _
        rw [f4.2.1 _ _ n1, f3.2.1 _ _ n1]
        rfl
    have u8 : Mu (uCock u c (tN s b3) (tN s b5)) m8 := by
      refine key m8 u1 (fun a j w1 w2 => t8 a j w1 (by omega)) _ _ ?_ ?_ ?_ ?_
      · rw [hm8, gI_sI, if_neg (by omega), gI_sI, if_neg (by omega), f6.1 _ _ (sTm_n (by omega)), f5.1 _ _ (sTm_n (by omega)), gI_w]
      · rw [hm8, gI_sI, if_neg (by omega), gI_w]
      · rw [hm8, gI_w]; rfl
      · rw [hm8, gI_sI, if_neg (by omega), gI_sI, if_neg (by omega), f6.1 _ _ (sTm_n (by omega)), f5.1 _ _ (sTm_n (by omega)), gI_sI, if_neg (by omega), f4.1 _ _ (sTm_n (by omega)), f3.1 _ _ (sTm_n (by omega)), gI_w]; rfl
    refine lm_nt c8 (by omega) fun m9 f9 c9 => ?_
    rw [← p5] at c9
    exact lm_en c9 (u8.tm f9) (by omega)
