/-! ===== the law's secret: its equation, by hand (what is thrown is caught at 11) ===== -/
theorem D308_0 : decode (mB 308) 0 = .ok (.aload 6, 2) := by decide +kernel
theorem D308_2 : decode (mB 308) 2 = .ok (.iconst 0, 1) := by decide +kernel
theorem D308_3 : decode (mB 308) 3 = .ok (.aload_n 0, 1) := by decide +kernel
theorem D308_4 : decode (mB 308) 4 = .ok (.iload_n 1, 1) := by decide +kernel
theorem D308_5 : decode (mB 308) 5 = .ok (.iload_n 2, 1) := by decide +kernel
theorem D308_6 : decode (mB 308) 6 = .ok (.iload_n 3, 1) := by decide +kernel
theorem D308_7 : decode (mB 308) 7 = .ok (.iload 4, 2) := by decide +kernel
theorem D308_9 : decode (mB 308) 9 = .ok (.iload 5, 2) := by decide +kernel
theorem D308_11 : decode (mB 308) 11 = .ok (.invokevirtual 7, 3) := by decide +kernel
theorem C308_11 : eCall (mC 308) (.invokevirtual 7) = some (202, 0) := by decide +kernel
theorem D308_14 : decode (mB 308) 14 = .ok (.lastore, 1) := by decide +kernel
theorem D308_15 : BR 308 15 (.goto 7) (7) 22 := ⟨by decide +kernel, by decide, by decide⟩
theorem D308_22 : decode (mB 308) 22 = .ok (.iconst 0, 1) := by decide +kernel
theorem D308_23 : decode (mB 308) 23 = .ok (.ireturn, 1) := by decide +kernel
def sAns (a6 : Nat) (o : oX) : oX := match o with
  | some (some (some (.long v)), m') => gw m' a6 21 0 (yI 0 (sL m' a6 0 v))
  | some (none, m') => yI 1 m'
  | _ => none
theorem La_sec_e (d : Nat) (a0 : Nat) (x1 x2 x3 x4 x5 : Int32) (a6 : Nat) (m : eM) (h : kd a0 = 9) : La_sec (d + 1) a0 x1 x2 x3 x4 x5 a6 m = sAns a6 (LC_secret d a0 x1 x2 x3 x4 x5 m) := by
  unfold La_sec
  refine (x_aload2 D308_0 rfl).trans ?_
  refine (x_iconst D308_2 (k := 0) (by decide)).trans ?_
  refine (x_aload1 D308_3 rfl).trans ?_
  refine (x_iload1 D308_4 rfl).trans ?_
  refine (x_iload1 D308_5 rfl).trans ?_
  refine (x_iload1 D308_6 rfl).trans ?_
  refine (x_iload2 D308_7 rfl).trans ?_
  refine (x_iload2 D308_9 rfl).trans ?_
  obtain ⟨st, hst⟩ : ∃ st, st = [.int x5, .int x4, .int x3, .int x2, .int x1, .ref a0, .int (0 : Int32), Value.ref a6] := ⟨_, rfl⟩
  have hok : eOK 202 0 [.ref a0, .int x1, .int x2, .int x3, .int x4, .int x5] [.int (0 : Int32), Value.ref a6] = true := ok_i M202 (I202 _ _ _ _ _ _) rfl rfl h
  obtain ⟨m1, m2, m3, m4, m5, m6⟩ := M202
  have e1 : eFin (mR 308) (.invokevirtual 7) st = none := rfl
  have h1 : (st.take 6).reverse = [.ref a0, .int x1, .int x2, .int x3, .int x4, .int x5] := by rw [hst]; rfl
  have h2 : st.drop 6 = [.int (0 : Int32), .ref a6] := by rw [hst]; rfl
  have key : X (d + 1) 308 11 [.ref a0, .int x1, .int x2, .int x3, .int x4, .int x5, .ref a6, eU] st m = sAns a6 (LC_secret d a0 x1 x2 x3 x4 x5 m) := by
    rw [X_stp]
    unfold stp
    rw [D308_11]
    simp only [if_pos (show lenOK (.invokevirtual 7) 3 = true from rfl), e1, C308_11, m1, m2, h1, h2, (I202 _ _ _ _ _ _).1, if_pos hok]
    unfold LC_secret
    cases y : X d 202 0 [.ref a0, .int x1, .int x2, .int x3, .int x4, .int x5, eU, eU, eU, eU, eU] [] m with
    | none => rfl
    | some q =>
      obtain ⟨o, m'⟩ := q
      cases o with
      | none => rfl
      | some v =>
        have hk := X_K y
        rw [m3] at hk
        cases v with
        | none => cases hk
        | some w =>
          cases w with
          | long z =>
            refine (x_lastore D308_14).trans ?_
            show _ = gw m' a6 21 0 (yI 0 (sL m' a6 0 z))
            refine gw_c ?_
            refine (x_goto D308_15).trans ?_
            refine (x_iconst D308_22 (k := 0) (by decide)).trans ?_
            exact x_iret D308_23 M308.2.2.1
          | int z => exact absurd rfl hk
          | _ => cases hk
  rw [hst] at key
  exact key
/-! its answer: 0 and the value in the cell 258, or 1 -/
theorem La_sec_s {v : eV} (hv : Va v) {p : Nat} {m : eM} (h : Cn v p m) {D : Nat} (hD : 16 ≤ D) (s l t n w : Int32) : ∃ m', Fr sK m m' ∧ La_sec D 3 s l t n w 258 m = if secB v s l t n w = true then yI 0 (sL m' 258 0 (secV v s l t n w)) else yI 1 (sX m' 6) := by
  obtain ⟨d, rfl⟩ : ∃ d, D = d + 1 := ⟨D - 1, by omega⟩
  obtain ⟨m', f, e⟩ := LC_secret_s hv h (show 15 ≤ d by omega) s l t n w
  refine ⟨m', f, ?_⟩
  rw [La_sec_e _ _ _ _ _ _ _ _ _ kd_3, e]
  by_cases z : secB v s l t n w = true
  · rw [if_pos z, if_pos z]
    exact gw_258 (n := 0) (by decide)
  · rw [if_neg z, if_neg z]
    rfl
