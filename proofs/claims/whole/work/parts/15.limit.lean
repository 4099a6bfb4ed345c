/-! ===== the limit of the runs: X, a function that obeys the equations of the machine ===== -/
abbrev oX : Type := Option (Option (Option Value) × eM)
/-- one step over any continuation -/
def stp (R : Nat → Nat → Nat → List Value → List Value → eM → oX) (d μ pc : Nat) (ls st : List Value) (m : eM) : oX := match decode (mB μ) pc with
    | .error _ => none
    | .ok (i, len) => if lenOK i len = true then (match eFin (mR μ) i st with
      | some v => some (some v, m)
      | none => (match eCall (mC μ) i with
        | some (y, kind) => (match d with
          | 0 => none
          | d + 1 => if eOK y kind (st.take (mP y)).reverse (st.drop (mP y)) = true then (match R d y 0 (eIni (mL y) (st.take (mP y)).reverse) [] m with
            | some (some v, m') => R (d + 1) μ (pc + 3) ls (v.toList ++ st.drop (mP y)) m'
            | some (none, m') => if μ = eSec ∧ pc = 11 then some (some (some (.int 1)), m') else none
            | none => none) else none)
        | none => if eThrow μ pc i = true ∧ eCat st ≤ 8 ∧ 10 ≤ d then some (none, sX m 6) else (match alu (mC μ) (mIni μ) d i pc ls st m with
          | some (pc', ls', st', m') => R d μ pc' ls' st' m'
          | none => none))) else none
theorem run_stp (n : Nat) : run (n + 1) = stp (run n) := by
  funext d μ pc ls st m
  rfl
theorem stp_mono {R R' : Nat → Nat → Nat → List Value → List Value → eM → oX} (h : ∀ d μ pc ls st m r, R d μ pc ls st m = some r → R' d μ pc ls st m = some r) (d μ pc : Nat) (ls st : List Value) (m : eM) (r : Option (Option Value) × eM) (hs : stp R d μ pc ls st m = some r) : stp R' d μ pc ls st m = some r := by
  unfold stp at hs ⊢
  split at hs
  · cases hs
  · split at hs
    · rename_i hle
      simp only [if_pos hle]
      split at hs
      · exact hs
      · split at hs
        · split at hs
          · cases hs
          · split at hs
            · rename_i hok
              split at hs
              · rename_i h1
                simp only [if_pos hok, h _ _ _ _ _ _ _ h1]
                exact h _ _ _ _ _ _ _ hs
              · rename_i h1
                simp only [if_pos hok, h _ _ _ _ _ _ _ h1]
                exact hs
              · cases hs
            · cases hs
        · split at hs
          · rename_i ht
            simp only [if_pos ht]
            exact hs
          · rename_i ht
            simp only [if_neg ht]
            split at hs
            · exact h _ _ _ _ _ _ _ hs
            · cases hs
    · cases hs
theorem run_up : ∀ (n d μ pc : Nat) (ls st : List Value) (m : eM) (r : Option (Option Value) × eM), run n d μ pc ls st m = some r → run (n + 1) d μ pc ls st m = some r
  | 0, _, _, _, _, _, _, _, h => by cases h
  | n + 1, d, μ, pc, ls, st, m, r, h => by
    rw [run_stp] at h ⊢
    exact stp_mono (fun _ _ _ _ _ _ _ q => run_up n _ _ _ _ _ _ _ q) _ _ _ _ _ _ _ h
theorem run_le {n k : Nat} (hk : n ≤ k) {d μ pc : Nat} {ls st : List Value} {m : eM} {r : Option (Option Value) × eM} (h : run n d μ pc ls st m = some r) : run k d μ pc ls st m = some r := by
  induction hk with
  | refl => exact h
  | step _ ih => exact run_up _ _ _ _ _ _ _ _ ih
noncomputable def X (d μ pc : Nat) (ls st : List Value) (m : eM) : oX := @dite _ (∃ n r, run n d μ pc ls st m = some r) (Classical.propDecidable _) (fun h => some (Classical.choose (Classical.choose_spec h))) (fun _ => none)
theorem X_of {n d μ pc : Nat} {ls st : List Value} {m : eM} {r : Option (Option Value) × eM} (h : run n d μ pc ls st m = some r) : X d μ pc ls st m = some r := by
  unfold X
  have hz : ∃ n r, run n d μ pc ls st m = some r := ⟨n, r, h⟩
  rw [dif_pos hz]
  have h2 := Classical.choose_spec (Classical.choose_spec hz)
  have a := run_le (Nat.le_max_left n (Classical.choose hz)) h
  have b := run_le (Nat.le_max_right n (Classical.choose hz)) h2
  exact b.symm.trans a
theorem X_run {d μ pc : Nat} {ls st : List Value} {m : eM} {r : Option (Option Value) × eM} (h : X d μ pc ls st m = some r) : ∃ n, run n d μ pc ls st m = some r := by
  unfold X at h
  split at h
  · rename_i hz
    have h2 := Classical.choose_spec (Classical.choose_spec hz)
    cases h
    exact ⟨_, h2⟩
  · cases h
theorem stp_run {d μ pc : Nat} {ls st : List Value} {m : eM} {r : Option (Option Value) × eM} (hs : stp X d μ pc ls st m = some r) : ∃ n, stp (run n) d μ pc ls st m = some r := by
  unfold stp at hs ⊢
  split at hs
  · cases hs
  · split at hs
    · rename_i hle
      simp only [if_pos hle]
      split at hs
      · exact ⟨0, hs⟩
      · split at hs
        · split at hs
          · cases hs
          · split at hs
            · rename_i hok
              split at hs
              · rename_i h1
                obtain ⟨n1, q1⟩ := X_run h1
                obtain ⟨n2, q2⟩ := X_run hs
                refine ⟨max n1 n2, ?_⟩
                simp only [if_pos hok, run_le (Nat.le_max_left n1 n2) q1]
                exact run_le (Nat.le_max_right n1 n2) q2
              · rename_i h1
                obtain ⟨n1, q1⟩ := X_run h1
                refine ⟨n1, ?_⟩
                simp only [if_pos hok, q1]
                exact hs
              · cases hs
            · cases hs
        · split at hs
          · rename_i ht
            refine ⟨0, ?_⟩
            simp only [if_pos ht]
            exact hs
          · rename_i ht
            split at hs
            · obtain ⟨n, q⟩ := X_run hs
              refine ⟨n, ?_⟩
              simp only [if_neg ht]
              exact q
            · cases hs
    · cases hs
theorem X_stp (d μ pc : Nat) (ls st : List Value) (m : eM) : X d μ pc ls st m = stp X d μ pc ls st m := by
  cases h : X d μ pc ls st m with
  | some r =>
    obtain ⟨n, hn⟩ := X_run h
    cases n with
    | zero => cases hn
    | succ n =>
      rw [run_stp] at hn
      exact (stp_mono (fun _ _ _ _ _ _ _ q => X_of q) _ _ _ _ _ _ _ hn).symm
  | none =>
    cases h2 : stp X d μ pc ls st m with
    | none => rfl
    | some r =>
      obtain ⟨n, hn⟩ := stp_run h2
      rw [← run_stp] at hn
      rw [X_of hn] at h
      cases h
/-- the kind of an answer -/
def rK (r : Option FieldType) (v : Option Value) : Prop := match r, v with
  | none, none => True
  | some ty, some (.int _) => ty ≠ .long
  | some ty, some (.long _) => ty = .long
  | _, _ => False
theorem eFin_K {r : Option FieldType} {i : Instr} {st : List Value} {v : Option Value} (h : eFin r i st = some v) : rK r v := by
  unfold eFin at h
  split at h
  · split at h
    · split at h
      · rename_i hn; cases h; exact hn.2
      · cases h
    · cases h
  · split at h
    · rename_i hn; cases h; rw [hn]; rfl
    · cases h
  · split at h
    · rename_i hn; cases h; rw [hn]; trivial
    · cases h
  · cases h
theorem mR_eSec : mR eSec = some .int := by decide +kernel
theorem run_K : ∀ (n d μ pc : Nat) (ls st : List Value) (m : eM) (v : Option Value) (m' : eM), run n d μ pc ls st m = some (some v, m') → rK (mR μ) v
  | 0, _, _, _, _, _, _, _, _, h => by cases h
  | n + 1, d, μ, pc, ls, st, m, v, m', h => by
    rw [run_stp] at h
    unfold stp at h
    split at h
    · cases h
    · split at h
      · split at h
        · rename_i hf
          cases h
          exact eFin_K hf
        · split at h
          · split at h
            · cases h
            · split at h
              · split at h
                · exact run_K n _ _ _ _ _ _ _ _ h
                · split at h
                  · rename_i hz
                    cases h
                    rw [hz.1, mR_eSec]
                    exact fun z => by cases z
                  · cases h
                · cases h
              · cases h
          · split at h
            · cases h
            · split at h
              · exact run_K n _ _ _ _ _ _ _ _ h
              · cases h
      · cases h
theorem X_K {d μ pc : Nat} {ls st : List Value} {m : eM} {v : Option Value} {m' : eM} (h : X d μ pc ls st m = some (some v, m')) : rK (mR μ) v := by
  obtain ⟨n, hn⟩ := X_run h
  exact run_K n _ _ _ _ _ _ _ _ hn
/-! ===== the nodes of the trees ===== -/
def bI (o : oX) (k : Int32 → eM → oX) : oX := match o with
  | some (some (some (.int v)), m) => k v m
  | _ => none
def bL (o : oX) (k : Int64 → eM → oX) : oX := match o with
  | some (some (some (.long v)), m) => k v m
  | _ => none
def bV (o : oX) (k : eM → oX) : oX := match o with
  | some (some none, m) => k m
  | _ => none
def bR (o : Option Nat) (k : Nat → oX) : oX := match o with
  | some a => k a
  | none => none
def gd (a c : Nat) (o : oX) : oX := if kd a = c then o else none
def ga (m : eM) (a k : Nat) (j : Int32) (o : oX) : oX := if kd a = k ∧ eIn m a j = true then o else none
def g3 (a : Nat) (o : oX) : oX := if 3 ≤ a then o else none
def gq (c : Bool) (o : oX) : oX := if c = true then o else none
def yI (v : Int32) (m : eM) : oX := some (some (some (.int v)), m)
def yL (v : Int64) (m : eM) : oX := some (some (some (.long v)), m)
def yV (m : eM) : oX := some (some none, m)
def yB (v : Int32) (m : eM) : oX := if narrow .boolean (.int v) = .int v then some (some (some (.int v)), m) else none
def mI (m : eM) (a j : Nat) (v : Int32) (k : eM → oX) : oX := k (sI m a j v)
def mJ (m : eM) (a j : Nat) (v : Int64) (k : eM → oX) : oX := k (sL m a j v)
def mQ (m : eM) (a j : Nat) (v : Option Nat) (k : eM → oX) : oX := k (sR m a j v)
def lI (v : Int32) (k : Int32 → oX) : oX := k v
def lL (v : Int64) (k : Int64 → oX) : oX := k v
