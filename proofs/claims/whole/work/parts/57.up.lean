/-! ===== a view with a supposed saying at 30 ===== -/
def v30 (v : eV) (p mn : Nat) (S : Int64) : eV := (fun a j => if j = 30 then (if a = 9 then p else if a = 10 then mn else if a = 11 then 0 else v.1 a j) else v.1 a j, fun a j => if a = 0 ∧ j = 30 then S else v.2 a j)
theorem v30_j (v : eV) (p mn : Nat) (S : Int64) {a j : Nat} (h : j ≠ 30) : (v30 v p mn S).1 a j = v.1 a j := if_neg h
theorem v30_a (v : eV) (p mn : Nat) (S : Int64) {a j : Nat} (h : ¬ (9 ≤ a ∧ a ≤ 11)) : (v30 v p mn S).1 a j = v.1 a j := by
  show (if j = 30 then (if a = 9 then p else if a = 10 then mn else if a = 11 then 0 else v.1 a j) else v.1 a j) = _
  by_cases z : j = 30
  · rw [if_pos z, if_neg (by omega), if_neg (by omega), if_neg (by omega)]
  · rw [if_neg z]
theorem v30_L (v : eV) (p mn : Nat) (S : Int64) {a j : Nat} (h : j ≠ 30) : (v30 v p mn S).2 a j = v.2 a j := if_neg fun q => h q.2
theorem v30_F (v : eV) (p mn : Nat) (S : Int64) : nF (v30 v p mn S) = nF v := rfl
theorem v30_P (v : eV) (p mn : Nat) (S : Int64) : nP (v30 v p mn S) = nP v := rfl
theorem v30_C (v : eV) (p mn : Nat) (S : Int64) : com (v30 v p mn S) = com v := rfl
theorem v30_T (v : eV) (p mn : Nat) (S : Int64) : tru (v30 v p mn S) = tru v := rfl
theorem v30_cha (v : eV) (p mn : Nat) (S : Int64) : cha (v30 v p mn S) = cha v := funext fun _ => v30_a v p mn S (by decide)
theorem v30_bea (v : eV) (p mn : Nat) (S : Int64) : bea (v30 v p mn S) = bea v := funext fun _ => v30_a v p mn S (by decide)
theorem v30_hom (v : eV) (p mn : Nat) (S : Int64) : hom (v30 v p mn S) = hom v := funext fun _ => v30_a v p mn S (by decide)
theorem v30_kno (v : eV) (p mn : Nat) (S : Int64) : kno (v30 v p mn S) = kno v := funext fun _ => v30_a v p mn S (by decide)
theorem v30_law (v : eV) (p mn : Nat) (S : Int64) : lawV (v30 v p mn S) = lawV v := funext fun _ => v30_a v p mn S (by decide)
theorem v30_lat (v : eV) (p mn : Nat) (S : Int64) : lat (v30 v p mn S) = lat v := funext fun _ => v30_a v p mn S (by decide)
theorem v30_isc (v : eV) (p mn : Nat) (S : Int64) : isc (v30 v p mn S) = isc v := funext fun _ => v30_a v p mn S (by decide)
theorem v30_b (v : eV) (p mn : Nat) (S : Int64) {a : Nat} (h : ¬ (9 ≤ a ∧ a ≤ 11)) : (v30 v p mn S).1 a = v.1 a := funext fun _ => v30_a v p mn S h
theorem v30_va {v : eV} (hv : Va v) (p mn : Nat) (S : Int64) : Va (v30 v p mn S) := by
  have key : ∀ {j : Nat}, j < 30 → who (v30 v p mn S) j = who v j ∧ whn (v30 v p mn S) j = whn v j ∧ isq (v30 v p mn S) j = isq v j ∧ soV (v30 v p mn S) j = soV v j := fun h => ⟨v30_j v p mn S (by omega), v30_j v p mn S (by omega), v30_j v p mn S (by omega), v30_L v p mn S (by omega)⟩
  have hS := hv.s
  have hO := hv.o
  unfold Va at hv ⊢
  rw [v30_cha, v30_bea, v30_hom, v30_kno, v30_law, v30_lat, v30_isc]
  obtain ⟨a1, a2, a3, a4, a5, a6, a7, a8, a9, a10, a11, a12, a13, a14, a15, a16⟩ := hv
  refine ⟨a1, a2, a3, a4, a5, a6, a7, a8, a9, a10, a11, fun j hj => ?_, fun i j hij hj => ?_, ?_, ?_, ?_⟩
  · have hj' : j < nS v ∨ 24 ≤ j ∧ j < 24 + nO v := hj
    obtain ⟨e1, e2, e3, e4⟩ := key (j := j) (by omega)
    rw [e1, e2, e3, e4]
    exact a12 j hj
  · have hj' : j < nS v := hj
    rw [(key (j := i) (by omega)).2.1, (key (j := j) (by omega)).2.1]
    exact a13 i j hij hj
  · intro j hj
    have := a14 j hj
    unfold lkC lkM lkF lkT at this ⊢
    rw [v30_b v p mn S (by decide), v30_b v p mn S (by decide), v30_b v p mn S (by decide), v30_b v p mn S (by decide)]
    exact this
  · intro j hj
    have := a15 j hj
    unfold wtC wtM at this ⊢
    rw [v30_b v p mn S (by decide), v30_b v p mn S (by decide)]
    exact this
  · exact a16
theorem mpI_30 {a j : Nat} {q : Nat × Nat} (h : mpI a j = some q) : q.2 < 30 := by
  unfold mpI at h
  split at h
  · split at h
    · cases h; decide
    · split at h
      · injection h with h; rw [← h]; dsimp only; omega
      · cases h
  · split at h
    · injection h with h; rw [← h]; dsimp only; omega
    · split at h
      · injection h with h; rw [← h]; dsimp only; omega
      · split at h
        · injection h with h; rw [← h]; dsimp only; omega
        · split at h
          · injection h with h; rw [← h]; dsimp only; omega
          · split at h
            · injection h with h; rw [← h]; dsimp only; omega
            · split at h
              · injection h with h; rw [← h]; dsimp only; omega
              · cases h
theorem mpL_30 {a j : Nat} {q : Nat × Nat} (h : mpL a j = some q) : q.2 < 30 := by
  unfold mpL at h
  split at h
  · cases h; decide
  · split at h
    · injection h with h; rw [← h]; dsimp only; omega
    · cases h
theorem v30_mp {v : eV} {m : eM} (h : Mp v m) (p mn : Nat) (S : Int64) : Mp (v30 v p mn S) m := by
  obtain ⟨h1, h2, h3, h4⟩ := h
  refine ⟨h1, fun a j q hq => ?_, fun a j q hq => ?_, fun j hj => ?_⟩
  · rw [v30_j v p mn S (Nat.ne_of_lt (mpI_30 hq))]
    exact h2 a j q hq
  · rw [v30_L v p mn S (Nat.ne_of_lt (mpL_30 hq))]
    exact h3 a j q hq
  · have : nam (v30 v p mn S) j = nam v j := v30_a v p mn S (by decide)
    rw [this]
    exact h4 j hj
theorem v30_like (v : eV) (p mn : Nat) (S : Int64) : likeV (v30 v p mn S) = likeV v := rfl
theorem v30_lieG (v : eV) (p mn : Nat) (S T : Int64) (l i : Nat) : lieG (v30 v p mn S) T l i = lieG v T l i := by
  unfold lieG
  rw [v30_kno, v30_like]
  rfl
theorem v30_lieM (v : eV) (p mn : Nat) (S : Int64) (l : Nat) : lieM (v30 v p mn S) 30 l = lieG v S l p := by
  rw [lieM_G (show isq (v30 v p mn S) 30 = 0 from rfl), v30_lieG]
  rfl
/-- the supposed saying is not among the sayings and offers -/
theorem v30_lieV {v : eV} (p mn : Nat) (S : Int64) {j : Nat} (h : j ≠ 30) : lieV (v30 v p mn S) j = lieV v j := by
  have e1 : who (v30 v p mn S) j = who v j := v30_j v p mn S h
  have e2 : isq (v30 v p mn S) j = isq v j := v30_j v p mn S h
  have e3 : soV (v30 v p mn S) j = soV v j := v30_L v p mn S h
  funext l w
  unfold lieV
  rw [e1, e2, e3, v30_kno, v30_like]
