/-! ===== Course: at whom by the TRUTH, part by part ===== -/
/-- at whom in a minute -/
def pP (v : eV) (c m : Nat) : Nat := pt0 v c m (tru v)
/-- it is the same as long as no saying comes in between -/
theorem ptN_between {v : eV} {r : Nat → Nat} {c w a b : Nat} (hab : a ≤ b) : ∀ n, (∀ i, i < n → ¬ (a < whn v (r i) + lat v c ∧ whn v (r i) + lat v c ≤ b)) → ptN v r c a w n = ptN v r c b w n
  | 0, _ => rfl
  | n + 1, h => by
    rw [ptN_s, ptN_s, ptN_between hab n fun i hi => h i (by omega)]
    have := h n (by omega)
    by_cases z : whn v (r n) + lat v c ≤ a
    · by_cases y : tb (lieM v (r n) (lawV v c)) w = true
      · rw [if_pos ⟨z, y⟩, if_pos ⟨by omega, y⟩]
      · rw [if_neg (fun q => y q.2), if_neg (fun q => y q.2)]
    · rw [if_neg (fun q => z q.1), if_neg (fun q => by have := q.1; omega)]
theorem ptN_none {v : eV} {r : Nat → Nat} {c w a : Nat} : ∀ n, (∀ i, i < n → ¬ whn v (r i) + lat v c ≤ a) → ptN v r c a w n = 6
  | 0, _ => rfl
  | n + 1, h => by
    rw [ptN_s, if_neg (fun q => h n (by omega) q.1)]
    exact ptN_none n fun i hi => h i (by omega)
def mnV (v : eV) (c i : Nat) : Nat := whn v i + lat v c
/-- the parts behind the first i sayings -/
def CQ (v : eV) (c i : Nat) (S Q : Nat → Nat) (N : Nat) : Prop := (1 ≤ N ∧ N ≤ i + 1 ∧ S 0 = 0 ∧ Q 0 = 6) ∧ (∀ k, 1 ≤ k → k + 1 < N → S k < S (k + 1)) ∧ (∀ k, k + 1 < N → Q k ≠ Q (k + 1)) ∧ (∀ k, 1 ≤ k → k < N → ∃ j, j < i ∧ S k = mnV v c j ∧ Q k = pP v c (mnV v c j)) ∧ ∀ m, (i < nS v → m < mnV v c i) → ∀ k, k < N → S k ≤ m → (k + 1 < N → m < S (k + 1)) → pP v c m = Q k
theorem CQ_0 {v : eV} (hv : Va v) (c : Nat) : CQ v c 0 (fun _ => 0) (fun _ => 6) 1 := by
  refine ⟨⟨by omega, by omega, rfl, rfl⟩, fun k h1 h2 => by omega, fun k h => by omega, fun k h1 h2 => by omega, fun m hm k hk h1 h2 => ?_⟩
  refine ptN_none _ fun i hi q => ?_
  have h3 := hm (by omega)
  have h4 := hv.so (i := 0) (j := i) (by omega) hi
  unfold mnV at h3
  have q : whn v i + lat v c ≤ m := q
  omega
theorem pP_i {v : eV} (hv : Va v) {c i m : Nat} (hi : i < nS v) (h1 : mnV v c i ≤ m) (h2 : i + 1 < nS v → m < mnV v c (i + 1)) : pP v c m = pP v c (mnV v c i) := by
  refine (ptN_between h1 (nS v) fun j hj => ?_).symm
  show ¬ (mnV v c i < whn v j + lat v c ∧ whn v j + lat v c ≤ m)
  intro q
  unfold mnV at *
  rcases Nat.lt_or_ge i j with z | z
  · have h3 := h2 (by omega)
    have h4 := hv.so (i := i + 1) (j := j) (by omega) hj
    omega
  · have h4 := hv.so (i := j) (j := i) (by omega) hi
    omega
theorem CQ_same {v : eV} (hv : Va v) {c i : Nat} {S Q : Nat → Nat} {N : Nat} (hi : i < nS v) (h : CQ v c i S Q N) (hq : pP v c (mnV v c i) = Q (N - 1)) : CQ v c (i + 1) S Q N := by
  obtain ⟨⟨a1, a2, a3, a4⟩, b, d, e, g⟩ := h
  refine ⟨⟨a1, by omega, a3, a4⟩, b, d, fun k h1 h2 => ?_, fun m hm k hk h1 h2 => ?_⟩
  · obtain ⟨j, q1, q2⟩ := e k h1 h2
    exact ⟨j, by omega, q2⟩
  · by_cases z : m < mnV v c i
    · exact g m (fun _ => z) k hk h1 h2
    · have : k = N - 1 := by
        rcases Nat.lt_or_ge (k + 1) N with y | y
        · have h3 := h2 y
          obtain ⟨j, q1, q2, -⟩ := e (k + 1) (by omega) y
          have h4 := hv.so (i := j) (j := i) (by omega) hi
          unfold mnV at *
          omega
        · omega
      rw [this, ← hq]
      exact pP_i hv hi (by omega) hm
theorem CQ_add {v : eV} (hv : Va v) {c i : Nat} {S Q : Nat → Nat} {N : Nat} (hi : i < nS v) (h : CQ v c i S Q N) (hq : pP v c (mnV v c i) ≠ Q (N - 1)) : CQ v c (i + 1) (fun k => if k = N then mnV v c i else S k) (fun k => if k = N then pP v c (mnV v c i) else Q k) (N + 1) := by
  obtain ⟨⟨a1, a2, a3, a4⟩, b, d, e, g⟩ := h
  refine ⟨⟨by omega, by omega, by show (if 0 = N then _ else _) = _; rw [if_neg (by omega)]; exact a3, by show (if 0 = N then _ else _) = _; rw [if_neg (by omega)]; exact a4⟩, fun k h1 h2 => ?_, fun k h2 => ?_, fun k h1 h2 => ?_, fun m hm k hk h1 h2 => ?_⟩
  · show (if k = N then _ else _) < (if k + 1 = N then _ else _)
    rw [if_neg (by omega)]
    by_cases z : k + 1 = N
    · rw [if_pos z]
      obtain ⟨j, q1, q2, q3⟩ := e k h1 (by omega)
      have h4 := hv.so (i := j) (j := i) (by omega) hi
      rcases Nat.lt_or_ge (S k) (mnV v c i) with y | y
      · exact y
      · exfalso
        apply hq
        have : mnV v c j = mnV v c i := by unfold mnV at *; omega
        rw [show N - 1 = k by omega, q3, this]
    · rw [if_neg z]; exact b k h1 (by omega)
  · show (if k = N then _ else _) ≠ (if k + 1 = N then _ else _)
    rw [if_neg (by omega)]
    by_cases z : k + 1 = N
    · rw [if_pos z, show k = N - 1 by omega]; exact hq.symm
    · rw [if_neg z]; exact d k (by omega)
  · show ∃ j, j < i + 1 ∧ (if k = N then _ else _) = _ ∧ (if k = N then _ else _) = _
    by_cases z : k = N
    · rw [if_pos z, if_pos z]; exact ⟨i, by omega, rfl, rfl⟩
    · rw [if_neg z, if_neg z]
      obtain ⟨j, q1, q2⟩ := e k h1 (by omega)
      exact ⟨j, by omega, q2⟩
  · have h1 : (if k = N then mnV v c i else S k) ≤ m := h1
    have h2 : k + 1 < N + 1 → m < (if k + 1 = N then mnV v c i else S (k + 1)) := h2
    show pP v c m = (if k = N then _ else _)
    by_cases z : k = N
    · rw [if_pos z] at h1 ⊢
      exact pP_i hv hi h1 hm
    · rw [if_neg z] at h1 ⊢
      have h3 := h2 (by omega)
      have hlt : m < mnV v c i := by
        by_cases y : k + 1 = N
        · rw [if_pos y] at h3; exact h3
        · rw [if_neg y] at h3
          obtain ⟨j, q1, q2, -⟩ := e (k + 1) (by omega) (by omega)
          have h4 := hv.so (i := j) (j := i) (by omega) hi
          unfold mnV at *
          omega
      refine g m (fun _ => hlt) k (by omega) h1 fun y => ?_
      rw [if_neg (by omega)] at h3
      exact h3
/-! the class: the course's cells -/
def stC (t : Nat) : Prop := 3 ≤ t ∧ kk t = (1, 3) ∧ kk (t + 1) = (20, 25) ∧ kk (t + 2) = (20, 25)
theorem stC_55 : stC 55 := by unfold stC; decide +kernel
theorem stC_58 : stC 58 := by unfold stC; decide +kernel
def CoR (t : Nat) (m : eM) : Prop := gR m t 0 = some (t + 1) ∧ gR m t 1 = some (t + 2)
theorem CoR_55 {m : eM} (hs : Sk m) : CoR 55 m := ⟨rf_55_0 hs, rf_55_1 hs⟩
theorem CoR_58 {m : eM} (hs : Sk m) : CoR 58 m := ⟨rf_58_0 hs, rf_58_1 hs⟩
def CoP (t : Nat) (S Q : Nat → Nat) (N : Nat) (m : eM) : Prop := stC t ∧ CoR t m ∧ gI m t 2 = nI N ∧ N ≤ 25 ∧ ∀ k, k < N → gI m (t + 1) k = nI (S k) ∧ gI m (t + 2) k = pI (Q k) ∧ S k < 2000 ∧ Q k < 7
def sTc (t a _ : Nat) : Bool := decide (t ≤ a ∧ a ≤ t + 2)
theorem sTc_n {t a k : Nat} (h : a < t ∨ t + 2 < a) : sTc t a k = false := decide_eq_false (by omega)
theorem CoP.kd {t : Nat} {S Q : Nat → Nat} {N : Nat} {m : eM} (h : CoP t S Q N m) : kd t = 1 := kd_of h.1.2.1
theorem CoP.fr {t : Nat} {S Q : Nat → Nat} {N : Nat} {m m' : eM} {T : Nat → Nat → Bool} (h : CoP t S Q N m) (f : Fr T m m') (hS : ∀ a j, t ≤ a → a ≤ t + 2 → T a j = false) : CoP t S Q N m' := by
  obtain ⟨h1, ⟨r0, r1⟩, h2, h3, h4⟩ := h
  refine ⟨h1, ⟨(f.r _ _).trans r0, (f.r _ _).trans r1⟩, (f.1 _ _ (hS _ _ (by omega) (by omega))).trans h2, h3, fun k hk => ?_⟩
  obtain ⟨a, b, q⟩ := h4 k hk
  exact ⟨(f.1 _ _ (hS _ _ (by omega) (by omega))).trans a, (f.1 _ _ (hS _ _ (by omega) (by omega))).trans b, q⟩
theorem Co_whom_s {t : Nat} {S Q : Nat → Nat} {N : Nat} {m : eM} (h : CoP t S Q N m) (d : Nat) {k : Nat} (hk : k < N) : Co_whom d t (nI k) m = yI (pI (Q k)) m := by
  have hkd := h.kd
  obtain ⟨⟨h0, k0, k1, k2⟩, ⟨r0, r1⟩, hN, hN2, hq⟩ := h
  rw [Co_whom_e _ _ _ _ hkd, if_neg (nI_pos (by omega)), hN, if_neg (by rw [n_le (by omega) (by omega)]; omega), r1, bR_s, pk_gl k2 (by decide), pk_len k2 (by omega), toI, if_neg (by rw [n_le (by omega) (by omega)]; omega), bR_s, pk_ga k2 (by omega) (by omega) (by decide), n_cl (by omega), (hq k hk).2.1]
/-- where a part ends -/
def eS (S : Nat → Nat) (N k : Nat) : Nat := if k < N then S k else 1440
theorem Co_start_s {t : Nat} {S Q : Nat → Nat} {N : Nat} {m : eM} (h : CoP t S Q N m) (d : Nat) {k : Nat} (hk : k ≤ N) : Co_start d t (nI k) m = yI (nI (eS S N k)) m := by
  have hkd := h.kd
  obtain ⟨⟨h0, k0, k1, k2⟩, ⟨r0, r1⟩, hN, hN2, hq⟩ := h
  rw [Co_start_e _ _ _ _ hkd, if_neg (nI_pos (by omega)), hN]
  unfold eS
  by_cases z : k < N
  · rw [if_neg (by rw [n_le (by omega) (by omega)]; omega), r0, bR_s, pk_gl k1 (by decide), pk_len k1 (by omega), toI, if_neg (by rw [n_le (by omega) (by omega)]; omega), bR_s, pk_ga k1 (by omega) (by omega) (by decide), n_cl (by omega), (hq k z).1, if_pos z]
  · rw [if_pos (by rw [n_le (by omega) (by omega)]; omega), if_neg z]; rfl
theorem Co_add_s {t : Nat} {S Q : Nat → Nat} {N : Nat} {m : eM} (h : CoP t S Q N m) (hN : N < 25) (d : Nat) {x q : Nat} (hx : x < 2000) (hq : q < 7) : ∃ m', Fr (sTc t) m m' ∧ Co_add d t (nI x) (pI q) m = yV m' ∧ CoP t (fun k => if k = N then x else S k) (fun k => if k = N then q else Q k) (N + 1) m' := by
  have hkd := h.kd
  obtain ⟨⟨h0, k0, k1, k2⟩, ⟨r0, r1⟩, hs, hN2, hh⟩ := h
  refine ⟨sI (sI (sI m (t + 1) N (nI x)) (t + 2) N (pI q)) t 2 (nI (N + 1)), ((Fr.rfl'.i (decide_eq_true (by omega))).i (decide_eq_true (by omega))).i (decide_eq_true (by omega)), ?_, ⟨h0, k0, k1, k2⟩, ⟨r0, r1⟩, gI_w _ _ _ _, by omega, fun k hk => ?_⟩
  · have s1 : gI (sI m (t + 1) N (nI x)) t 2 = nI N := by rw [gI_sI, if_neg (by omega)]; exact hs
    have s2 : gI (sI (sI m (t + 1) N (nI x)) (t + 2) N (pI q)) t 2 = nI N := by rw [gI_sI, if_neg (by omega)]; exact s1
    rw [Co_add_e _ _ _ _ _ hkd, hs, if_neg (nI_pos (by omega)), r0, bR_s, pk_gl k1 (by decide), pk_len k1 (by omega), toI, if_neg (by rw [n_le (by omega) (by omega)]; omega), r1, bR_s, pk_gl k2 (by decide), pk_len k2 (by omega), toI, if_neg (by rw [n_le (by omega) (by omega)]; omega), bR_s, pk_gw k1 h0 (by omega) (by decide), n_cl (by omega), mI_u, gR_sI, r1, bR_s, s1, pk_gw k2 h0 (by omega) (by decide), n_cl (by omega), mI_u, s2, nI_1, mI_u]
  · by_cases z : k = N
    · subst z
      refine ⟨?_, ?_, ?_, ?_⟩
      · show _ = nI (if k = k then x else S k)
        rw [gI_sI, if_neg (by omega), gI_sI, if_neg (by omega), gI_w, if_pos rfl]
      · show _ = pI (if k = k then q else Q k)
        rw [gI_sI, if_neg (by omega), gI_w, if_pos rfl]
      · show (if k = k then x else S k) < 2000
        rw [if_pos rfl]; exact hx
      · show (if k = k then q else Q k) < 7
        rw [if_pos rfl]; exact hq
    · obtain ⟨a, b, c, e⟩ := hh k (by omega)
      refine ⟨?_, ?_, ?_, ?_⟩
      · show _ = nI (if k = N then x else S k)
        rw [gI_sI, if_neg (by omega), gI_sI, if_neg (by omega), gI_sI, if_neg (by omega), if_neg z]; exact a
      · show _ = pI (if k = N then q else Q k)
        rw [gI_sI, if_neg (by omega), gI_sI, if_neg (by omega), gI_sI, if_neg (by omega), if_neg z]; exact b
      · show (if k = N then x else S k) < 2000
        rw [if_neg z]; exact c
      · show (if k = N then q else Q k) < 7
        rw [if_neg z]; exact e
theorem pI_i {a b : Nat} (ha : a < 7) (hb : b < 7) : pI a = pI b ↔ a = b := by
  constructor
  · intro h
    unfold pI at h
    by_cases z1 : a = 6
    · by_cases z2 : b = 6
      · omega
      · rw [if_pos z1, if_neg z2, neg1_ne_n (by omega)] at h; exact h.elim
    · by_cases z2 : b = 6
      · rw [if_neg z1, if_pos z2, n_ne_neg1 (by omega)] at h; exact h.elim
      · rw [if_neg z1, if_neg z2, n_eq (by omega) (by omega)] at h; exact h
  · intro h; rw [h]
theorem pP_lt {v : eV} (hv : Va v) (c m : Nat) : pP v c m < 7 := by
  have := hv.p
  rcases pt0_le hv (c := c) (mn := m) (w := tru v) with z | z <;> unfold pP <;> omega
theorem Co_follow_13_s {v : eV} (hv : Va v) {p t : Nat} (ht : t = 55 ∨ t = 58) (d : Nat) {c : Nat} (hc : c < 2) : ∀ j i S Q N w4 w5 m, Cn v p m → CoP t S Q N m → CQ v c i S Q N → i + j = nS v → ∃ m' S' Q' N', Fr (sTc t) m m' ∧ Co_follow_13 (d + 3) t 9 (nI c) (nI i) w4 w5 m = yV m' ∧ CoP t S' Q' N' m' ∧ CQ v c (nS v) S' Q' N'
  | 0, i, S, Q, N, w4, w5, m, h, hC, hq, e => by
    have hs := h.sk
    have hnS := hv.s
    refine ⟨m, S, Q, N, Fr.rfl', ?_, hC, by rw [show nS v = i by omega]; exact hq⟩
    rw [Co_follow_13_e _ _ _ _ _ _ _ _ hC.kd kd_9, rf_9_1 hs, bR_s, gd22, Tk_size_e _ _ _ kd_22, h.t.2.2.1, bI_y, if_pos (by rw [n_le (by omega) (by omega)]; omega)]
  | j + 1, i, S, Q, N, w4, w5, m, h, hC, hq, e => by
    have hs := h.sk
    have hnS := hv.s
    have hl := hv.lt hc
    have hwn := hv.wn (Or.inl (by omega) : sIx v i)
    have htr := hv.tr
    have hW := W_le hv
    have hN := hq.1
    have hQ := (hC.2.2.2.2 (N - 1) (by omega)).2.2.2
    have e0 := Co_follow_13_e (d + 2) t 9 (nI c) (nI i) w4 w5 m hC.kd kd_9
    rw [rf_9_1 hs, bR_s, gd22, Tk_size_e _ _ _ kd_22, h.t.2.2.1, bI_y, if_neg (by rw [n_le (by omega) (by omega)]; omega), rf_9_1 hs, bR_s, gd22, Tk_minute_s h.t (by omega) (by omega), bI_y, h.r0, bR_s, h.gp, Pa_late_s h.p (by omega) hc, bI_y, rf_9_1 hs, bR_s, h.r0, bR_s, gd22, nI_add, h.tr, Tk_lastLiar_s hv h.t h.p (by omega) hc (by omega) (by omega), bI_y, hC.2.2.1, n_s1 (by omega), Co_whom_s hC _ (by omega), bI_y, nI_1] at e0
    have ep : ptN v (fun i => i) c (whn v i + lat v c) (tru v) (nS v) = pP v c (mnV v c i) := rfl
    rw [ep] at e0
    by_cases z : pP v c (mnV v c i) = Q (N - 1)
    · obtain ⟨m', S', Q', N', f, e1, h1, h2⟩ := Co_follow_13_s hv ht d hc j (i + 1) S Q N (.int (nI (whn v i + lat v c))) (.int (pI (pP v c (mnV v c i)))) m h hC (CQ_same hv (by omega) hq z) (by omega)
      refine ⟨m', S', Q', N', f, ?_, h1, h2⟩
      rw [e0, if_pos ((pI_i (pP_lt hv _ _) hQ).mpr z)]
      exact e1
    · obtain ⟨m1, f1, e1, h1⟩ := Co_add_s hC (by omega) (d + 2) (x := mnV v c i) (q := pP v c (mnV v c i)) (by unfold mnV; omega) (pP_lt hv _ _)
      obtain ⟨m', S', Q', N', f, e2, h2, h3⟩ := Co_follow_13_s hv ht d hc j (i + 1) _ _ _ (.int (nI (whn v i + lat v c))) (.int (pI (pP v c (mnV v c i)))) m1 (h.fr f1 fun a k q => sTc_n (by
        have : ¬ (46 ≤ a ∧ a ≤ 67) := of_decide_eq_false q
        omega)) h1 (CQ_add hv (by omega) hq z) (by omega)
      refine ⟨m', S', Q', N', f1.tr f, ?_, h2, h3⟩
      have e1 : Co_add (d + 2) t (nI (whn v i + lat v c)) (pI (pP v c (mnV v c i))) m = yV m1 := e1
      rw [e0, if_neg (fun q => z ((pI_i (pP_lt hv _ _) hQ).mp q)), e1, bV_y]
      exact e2
theorem Co_follow_s {v : eV} (hv : Va v) {p t : Nat} (ht : t = 55 ∨ t = 58) {D : Nat} (hD : 3 ≤ D) {c : Nat} (hc : c < 2) {m : eM} (h : Cn v p m) : ∃ m' S Q N, Fr (sTc t) m m' ∧ Co_follow D t 9 (nI c) m = yV m' ∧ CoP t S Q N m' ∧ CQ v c (nS v) S Q N := by
  obtain ⟨d, rfl⟩ : ∃ d, D = d + 3 := ⟨D - 3, by omega⟩
  have hs := h.sk
  have hst : stC t := by
    rcases ht with z | z
    · subst z; exact stC_55
    · subst z; exact stC_58
  have hr : CoR t m := by
    rcases ht with z | z
    · subst z; exact CoR_55 hs
    · subst z; exact CoR_58 hs
  have f1 : Fr (sTc t) m (sI m t 2 0) := Fr.rfl'.i (decide_eq_true (by omega))
  obtain ⟨m1, f2, e2, h2⟩ := Co_add_s (t := t) (S := fun _ => 0) (Q := fun _ => 6) (N := 0) (m := sI m t 2 0) ⟨hst, hr, gI_w _ _ _ _, by omega, fun k hk => absurd hk (Nat.not_lt_zero k)⟩ (by omega) (d + 2) (x := 0) (q := 6) (by omega) (by omega)
  have h2' : CoP t (fun _ => 0) (fun _ => 6) 1 m1 := by
    obtain ⟨a, b, c1, c2, c3⟩ := h2
    refine ⟨a, b, c1, c2, fun k hk => ?_⟩
    have := c3 k hk
    have hk0 : k = 0 := by omega
    subst hk0
    exact this
  have f12 := f1.tr f2
  obtain ⟨m', S', Q', N', f3, e3, h3, h4⟩ := Co_follow_13_s hv ht d hc (nS v) 0 _ _ 1 eU eU m1 (h.fr f12 fun a k q => sTc_n (by
        have : ¬ (46 ≤ a ∧ a ≤ 67) := of_decide_eq_false q
        omega)) h2' (CQ_0 hv c) (by omega)
  refine ⟨m', S', Q', N', f12.tr f3, ?_, h3, h4⟩
  have e2 : Co_add (d + 2) t (0 : Int32) (-1 : Int32) (sI m t 2 0) = yV m1 := e2
  rw [Co_follow_e _ _ _ _ _ (kd_of hst.2.1) kd_9, mI_u, e2, bV_y]
  exact e3
