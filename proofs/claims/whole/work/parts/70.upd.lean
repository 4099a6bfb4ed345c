/-! ===== updates of a view ===== -/
def upV (v : eV) (a j x : Nat) : eV := (fun b k => if b = a ∧ k = j then x else v.1 b k, v.2)
def upL (v : eV) (a j : Nat) (y : Int64) : eV := (v.1, fun b k => if b = a ∧ k = j then y else v.2 b k)
/-- where the reference holds what a view says -/
def ivI (q : Nat × Nat) : Nat × Nat := if q.1 = 0 then (if q.2 < 3 then (210, q.2) else if q.2 = 3 then (208, 37) else (208, q.2 + 36)) else if q.1 ≤ 7 then (q.1 + 211, q.2) else if q.1 ≤ 10 then (q.1 + 228, q.2) else if q.1 = 11 then (240, q.2) else if q.1 ≤ 15 then (q.1 + 231, q.2) else (q.1 + 234, q.2)
theorem ivI_0 {k a j : Nat} (h : (if k < 3 then (210, k) else if k = 3 then (208, 37) else (208, k + 36)) = (a, j)) : ivI (0, k) = (a, j) := by
  unfold ivI
  dsimp only
  rw [if_pos rfl]
  exact h
theorem ivI_1 {b k : Nat} (h0 : b ≠ 0) (h : b ≤ 7) : ivI (b, k) = (b + 211, k) := by
  unfold ivI
  dsimp only
  rw [if_neg h0, if_pos h]
theorem ivI_2 {b k : Nat} (h0 : 7 < b) (h : b ≤ 10) : ivI (b, k) = (b + 228, k) := by
  unfold ivI
  dsimp only
  rw [if_neg (by omega), if_neg (by omega), if_pos h]
theorem ivI_3 {b k : Nat} (h0 : 11 < b) (h : b ≤ 15) : ivI (b, k) = (b + 231, k) := by
  unfold ivI
  dsimp only
  rw [if_neg (by omega), if_neg (by omega), if_neg (by omega), if_neg (by omega), if_pos h]
theorem ivI_4 {b k : Nat} (h0 : 15 < b) : ivI (b, k) = (b + 234, k) := by
  unfold ivI
  dsimp only
  rw [if_neg (by omega), if_neg (by omega), if_neg (by omega), if_neg (by omega), if_neg (by omega)]
theorem pr_e {a b c d : Nat} (h1 : a = c) (h2 : b = d) : (a, b) = (c, d) := by rw [h1, h2]
theorem ivI_e {a j : Nat} {q : Nat × Nat} (h : mpI a j = some q) : ivI q = (a, j) ∧ q.1 < 18 := by
  unfold mpI at h
  split at h
  · rename_i e
    split at h
    · rename_i e2
      injection h with h; rw [← h, e, e2]; exact ⟨rfl, by decide⟩
    · split at h
      · injection h with h; rw [← h]
        refine ⟨ivI_0 ?_, by dsimp only; omega⟩
        rw [if_neg (by omega), if_neg (by omega)]
        exact pr_e e.symm (by omega)
      · cases h
  · split at h
    · rename_i e
      injection h with h; rw [← h]
      refine ⟨ivI_0 ?_, by dsimp only; omega⟩
      rw [if_pos e.2]
      exact pr_e e.1.symm rfl
    · split at h
      · injection h with h; rw [← h]
        exact ⟨(ivI_1 (by omega) (by omega)).trans (pr_e (by omega) rfl), by dsimp only; omega⟩
      · split at h
        · injection h with h; rw [← h]
          exact ⟨(ivI_2 (by omega) (by omega)).trans (pr_e (by omega) rfl), by dsimp only; omega⟩
        · split at h
          · rename_i e
            injection h with h; rw [← h, e.1]; exact ⟨rfl, (by decide : 11 < 18)⟩
          · split at h
            · injection h with h; rw [← h]
              exact ⟨(ivI_3 (by omega) (by omega)).trans (pr_e (by omega) rfl), by dsimp only; omega⟩
            · split at h
              · injection h with h; rw [← h]
                exact ⟨(ivI_4 (by omega)).trans (pr_e (by omega) rfl), by dsimp only; omega⟩
              · cases h
theorem Mp.up {v : eV} {m : eM} (h : Mp v m) {a j : Nat} {q : Nat × Nat} (hq : mpI a j = some q) (x : Nat) : Mp (upV v q.1 q.2 x) (sI m a j (nI x)) := by
  refine ⟨h.1.i _ _ _, fun b k r hr => ?_, fun b k r hr => h.2.2.1 b k r hr, fun k hk => ?_⟩
  · rw [gI_sI]
    show _ = nI (if r.1 = q.1 ∧ r.2 = q.2 then x else v.1 r.1 r.2)
    by_cases z : b = a ∧ k = j
    · have : r = q := by
        rw [z.1, z.2] at hr
        exact Option.some.inj (hr.symm.trans hq)
      rw [if_pos z, this, if_pos ⟨rfl, rfl⟩]
    · rw [if_neg z, if_neg, h.2.1 b k r hr]
      rintro ⟨e1, e2⟩
      have e : r = q := Prod.ext e1 e2
      have e3 := (ivI_e hr).1
      have e4 := (ivI_e hq).1
      rw [e, e4] at e3
      injection e3 with e5 e6
      exact z ⟨e5.symm, e6.symm⟩
  · show gL m 211 k = lN (if 18 = q.1 ∧ k = q.2 then x else nam v k)
    rw [if_neg (fun e => by have := (ivI_e hq).2; omega)]
    exact h.2.2.2 k hk
theorem mpL_i {a j b k : Nat} {q : Nat × Nat} (h : mpL a j = some q) (h2 : mpL b k = some q) : b = a ∧ k = j := by
  unfold mpL at h h2
  split at h
  · rename_i e
    split at h2
    · rename_i e2; omega
    · split at h2
      · injection h with h; injection h2 with h2; rw [← h] at h2; injection h2 with h3; cases h3
      · cases h2
  · split at h
    · split at h2
      · injection h with h; injection h2 with h2; rw [← h] at h2; injection h2 with h3; cases h3
      · split at h2
        · injection h with h; injection h2 with h2; rw [← h] at h2; injection h2 with h3 h4; omega
        · cases h2
    · cases h
theorem mpL_a {a j : Nat} {q : Nat × Nat} (h : mpL a j = some q) : a = 219 ∨ a = 239 := by
  unfold mpL at h
  split at h
  · omega
  · split at h
    · omega
    · cases h
theorem Mp.upL {v : eV} {m : eM} (h : Mp v m) {a j : Nat} {q : Nat × Nat} (hq : mpL a j = some q) (y : Int64) : Mp (upL v q.1 q.2 y) (sL m a j y) := by
  refine ⟨h.1.l _ _ _, fun b k r hr => h.2.1 b k r hr, fun b k r hr => ?_, fun k hk => ?_⟩
  · rw [gL_sL]
    show _ = (if r.1 = q.1 ∧ r.2 = q.2 then y else v.2 r.1 r.2)
    by_cases z : b = a ∧ k = j
    · have : r = q := by
        rw [z.1, z.2] at hr
        exact Option.some.inj (hr.symm.trans hq)
      rw [if_pos z, this, if_pos ⟨rfl, rfl⟩]
    · rw [if_neg z, if_neg, h.2.2.1 b k r hr]
      rintro ⟨e1, e2⟩
      have e : r = q := Prod.ext e1 e2
      rw [e] at hr
      exact z (mpL_i hq hr)
  · show gL (sL m a j y) 211 k = lN (nam v k)
    rw [gL_sL, if_neg (fun e => by have := mpL_a hq; omega)]
    exact h.2.2.2 k hk
theorem Mp.upN {v : eV} {m : eM} (h : Mp v m) {j : Nat} (hj : j < 18) (x : Nat) : Mp (upV v 18 j x) (sL m 211 j (lN x)) := by
  refine ⟨h.1.l _ _ _, fun b k r hr => ?_, fun b k r hr => ?_, fun k hk => ?_⟩
  · show gI m b k = nI (if r.1 = 18 ∧ r.2 = j then x else v.1 r.1 r.2)
    rw [if_neg (fun e => by have := (ivI_e hr).2; omega)]
    exact h.2.1 b k r hr
  · rw [gL_sL, if_neg (fun e => by have := mpL_a hr; omega)]
    exact h.2.2.1 b k r hr
  · show gL (sL m 211 j (lN x)) 211 k = lN (if 18 = 18 ∧ k = j then x else nam v k)
    rw [gL_sL]
    by_cases z : k = j
    · rw [if_pos ⟨rfl, z⟩, if_pos ⟨rfl, z⟩]
    · rw [if_neg (fun e => z e.2), if_neg (fun e => z e.2)]
      exact h.2.2.2 k hk
/-! ===== the frames of a call ===== -/
/-- the reference's cells but for its tape and its marks -/
def sMu (a j : Nat) : Bool := decide (208 ≤ a ∧ a ≤ 254 ∧ a ≠ 209 ∧ a ≠ 221 ∧ ¬ (a = 208 ∧ j = 1))
theorem sMu_n {a j : Nat} (h : a < 208 ∨ a = 209 ∨ a = 208 ∧ j = 1 ∨ 254 < a ∨ a = 221) : sMu a j = false := decide_eq_false (by omega)
theorem sMu_i {a j : Nat} (h : sMu a j = false) : a < 208 ∨ a = 209 ∨ a = 208 ∧ j = 1 ∨ 254 < a ∨ a = 221 := by
  have := of_decide_eq_false h
  omega
theorem sQ_u (a j : Nat) (h : sMu a j = false) : sQ a j = false := by
  have h := sMu_i h
  unfold sQ
  by_cases z : 208 ≤ a ∧ a ≤ 257 ∧ a ≠ 221
  · have : pM a j = true := decide_eq_true (by omega)
    rw [this, Bool.not_true, Bool.and_false]
  · rw [decide_eq_false z, Bool.false_and]
theorem Fr.qu {m m' : eM} (f : Fr sQ m m') : Fr sMu m m' := f.up sQ_u
/-- the class' cells but for its tape, its parishes and its marks -/
def sCu (a _ : Nat) : Bool := decide (a = 9 ∨ 22 ≤ a ∧ a ≤ 43 ∨ 46 ≤ a ∧ a ≤ 67)
theorem sCu_n {a j : Nat} (h : a < 9 ∨ 9 < a ∧ a < 22 ∨ a = 44 ∨ a = 45 ∨ 67 < a) : sCu a j = false := decide_eq_false (by omega)
theorem sK_u (a j : Nat) (h : sCu a j = false) : sK a j = false := by
  have := of_decide_eq_false h
  exact sK_n (by omega)
theorem Fr.ku {m m' : eM} (f : Fr sK m m') : Fr sCu m m' := f.up sK_u
/-! ===== truth ===== -/
def nx_truth (v : eV) (w : Int32) : eV := if inN w (2 ^ nF v) = true then upV v 0 8 w.toNatClampNeg else v
theorem va_truth {v : eV} (hv : Va v) (w : Int32) : Va (nx_truth v w) := by
  have hW := W_64 hv
  unfold nx_truth
  by_cases z : inN w (2 ^ nF v) = true
  · rw [if_pos z]
    obtain ⟨k, hk, rfl⟩ := inN_of (by omega) z
    rw [n_cl (by omega)]
    obtain ⟨a1, a2, -, a3⟩ := hv
    exact ⟨a1, a2, hk, a3⟩
  · rw [if_neg z]; exact hv
theorem Mo_truth_s {v : eV} (hv : Va v) {m : eM} (h : Mp v m) {D : Nat} (hD : 1 ≤ D) (w : Int32) : ∃ m', Fr sMu m m' ∧ Mo_truth D 208 w m = yI (bb (inN w (2 ^ nF v))) m' ∧ Mp (nx_truth v w) m' := by
  obtain ⟨d, rfl⟩ : ∃ d, D = d + 1 := ⟨D - 1, by omega⟩
  have hW := W_64 hv
  have f0 : Fr sQ m (sI m 208 0 0) := Fr.rfl'.i rfl
  have h0 := h.q f0
  rw [Mo_truth_e _ _ _ _ kd_208, mI_u, Mo_isWorld_s hv h0 h0.sk, br1]
  unfold nx_truth
  by_cases z : inN w (2 ^ nF v) = true
  · rw [if_pos z, if_pos z, mI_u, z]
    obtain ⟨k, hk, rfl⟩ := inN_of (by omega) z
    rw [n_cl (by omega)]
    exact ⟨_, f0.qu.i rfl, rfl, h0.up (q := (0, 8)) rfl k⟩
  · rw [if_neg z, if_neg z, Bool.eq_false_iff.mpr z]
    exact ⟨_, f0.qu, rfl, h0⟩
theorem LC_truth_s {v : eV} (hv : Va v) {p : Nat} {m : eM} (h : Cn v p m) {D : Nat} (hD : 1 ≤ D) (w : Int32) : ∃ m', Fr sCu m m' ∧ LC_truth D 3 w m = yI (bb (inN w (2 ^ nF v))) m' ∧ Cn (nx_truth v w) p m' := by
  obtain ⟨d, rfl⟩ : ∃ d, D = d + 1 := ⟨D - 1, by omega⟩
  have hW := W_64 hv
  have hs := h.sk
  rw [LC_truth_e _ _ _ _ kd_3, rf_3_2 hs, bR_s, gd9, h.r0, bR_s, h.gp, Pa_isWorld_s hv h.p, br1]
  unfold nx_truth
  by_cases z : inN w (2 ^ nF v) = true
  · rw [if_pos z, if_pos z, z, rf_3_2 hs, bR_s, gd9, mI_u]
    obtain ⟨k, hk, rfl⟩ := inN_of (by omega) z
    rw [n_cl (by omega)]
    have f : Fr (fun a _ => a == 9) m (sI m 9 5 (nI k)) := Fr.rfl'.i rfl
    have hp : ∀ a : Nat, a ≠ 9 → (a == 9) = false := fun a q => by simp [q]
    have hpO := h.2.2.2
    refine ⟨_, Fr.rfl'.i rfl, rfl, ⟨h.1.1, gI_w _ _ _ _, h.p.fr f fun a _ q1 q2 => hp a (by rcases hpO with y | y | y | y | y | y <;> omega), h.t.fr f fun a _ q1 q2 => hp a (by omega), h.o.fr f fun a _ q1 q2 => hp a (by omega), h.l.fr f fun a _ q1 q2 => hp a (by omega), h.w.fr f fun a _ q1 q2 => hp a (by omega)⟩, h.ss.fr f (fun _ => rfl) (fun _ => rfl), hs.i _ _ _, hpO⟩
  · rw [if_neg z, if_neg z, Bool.eq_false_iff.mpr z]
    exact ⟨_, Fr.rfl', rfl, h⟩
