/-! ===== what a run never undoes ===== -/
def eMono (m m' : eM) : Prop := gH m ≤ gH m' ∧ gS m ≤ gS m' ∧ gX m ≤ gX m'
theorem eMono.rf (m : eM) : eMono m m := ⟨Nat.le_refl _, Nat.le_refl _, Nat.le_refl _⟩
theorem eMono.trans {a b c : eM} (h1 : eMono a b) (h2 : eMono b c) : eMono a c := ⟨Nat.le_trans h1.1 h2.1, Nat.le_trans h1.2.1 h2.2.1, Nat.le_trans h1.2.2 h2.2.2⟩
theorem eMono.sI (m : eM) (a i : Nat) (v : Int32) : eMono m (sI m a i v) := ⟨Nat.le_refl _, Nat.le_refl _, Nat.le_refl _⟩
theorem eMono.sL (m : eM) (a i : Nat) (v : Int64) : eMono m (sL m a i v) := ⟨Nat.le_refl _, Nat.le_refl _, Nat.le_refl _⟩
theorem eMono.sR (m : eM) (a i : Nat) (v : Option Nat) : eMono m (sR m a i v) := ⟨Nat.le_refl _, Nat.le_refl _, Nat.le_refl _⟩
theorem eMono.sX (m : eM) (n : Nat) : eMono m (sX m n) := ⟨Nat.le_succ _, Nat.le_add_right _ _, Nat.le_refl _⟩
theorem eMono.sN (m : eM) (n : Nat) : eMono m (sN m n) := ⟨Nat.le_succ _, Nat.le_add_right _ _, Nat.le_succ _⟩
theorem mv_agree {m : eM} {ad ad' : Nat → Nat} (h : ∀ a, a < gX m → ad' a = ad a) {v : Value} (hv : eRv m v) : mv ad' v = mv ad v := by
  cases v <;> first | rfl | exact congrArg Value.ref (h _ hv)
theorem eMono.rv {m m' : eM} (h : eMono m m') {v : Value} (hv : eRv m v) : eRv m' v := by
  cases v <;> first | trivial | exact Nat.lt_of_lt_of_le hv h.2.2
section
variable {pc pc' npc : Nat} {ls ls' st st' : List Value} {m m' : eM}
theorem mo_go (h : eGo pc ls st m = some (pc', ls', st', m')) : eMono m m' := by
  obtain ⟨-, -, -, rfl⟩ := eGo_inj h
  exact eMono.rf _
theorem mo_1I {f : Int32 → Value} (h : e1I f pc ls st m = some (pc', ls', st', m')) : eMono m m' := by
  unfold e1I at h; split at h
  · exact mo_go h
  · cases h
theorem mo_2I {f : Int32 → Int32 → Value} (h : e2I f pc ls st m = some (pc', ls', st', m')) : eMono m m' := by
  unfold e2I at h; split at h
  · exact mo_go h
  · cases h
theorem mo_1L {f : Int64 → Value} (h : e1L f pc ls st m = some (pc', ls', st', m')) : eMono m m' := by
  unfold e1L at h; split at h
  · exact mo_go h
  · cases h
theorem mo_2L {f : Int64 → Int64 → Value} (h : e2L f pc ls st m = some (pc', ls', st', m')) : eMono m m' := by
  unfold e2L at h; split at h
  · exact mo_go h
  · cases h
theorem mo_LI {f : Int64 → Int32 → Value} (h : eLI f pc ls st m = some (pc', ls', st', m')) : eMono m m' := by
  unfold eLI at h; split at h
  · exact mo_go h
  · cases h
theorem mo_C {α : Type} {q : Option α} {f : α → Value} (h : eC q f pc ls st m = some (pc', ls', st', m')) : eMono m m' := by
  unfold eC at h; split at h
  · exact mo_go h
  · cases h
theorem mo_Ld {i len k : Nat} (h : eLd i len pc k ls st m = some (pc', ls', st', m')) : eMono m m' := by
  unfold eLd at h; split at h <;> first | exact mo_go h | cases h
theorem mo_St {i len k : Nat} (h : eSt1 i len pc k ls st m = some (pc', ls', st', m')) : eMono m m' := by
  unfold eSt1 at h; split at h
  · split at h <;> first | exact mo_go h | cases h
  · split at h <;> first | exact mo_go h | cases h
  · split at h <;> first | exact mo_go h | cases h
  · cases h
theorem mo_Div {f : Int32 → Int32 → Value} (h : eDiv pc f ls st m = some (pc', ls', st', m')) : eMono m m' := by
  unfold eDiv at h; split at h
  · split at h <;> first | exact mo_go h | cases h
  · cases h
theorem mo_DivL {f : Int64 → Int64 → Value} (h : eDivL pc f ls st m = some (pc', ls', st', m')) : eMono m m' := by
  unfold eDivL at h; split at h
  · split at h <;> first | exact mo_go h | cases h
  · cases h
theorem mo_Jmp {off : Int} (h : eJmp pc off ls st m = some (pc', ls', st', m')) : eMono m m' := by
  unfold eJmp at h; split at h <;> first | exact mo_go h | cases h
theorem mo_Put {a j ty : Nat} {v : Value} (h : ePut m a j ty v = some m') : eMono m m' := by
  unfold ePut at h
  split at h
  · split at h
    · cases h; exact eMono.sI _ _ _ _
    · split at h
      · split at h
        · cases h; exact eMono.sI _ _ _ _
        · cases h
      · split at h
        · split at h
          · cases h; exact eMono.sI _ _ _ _
          · cases h
        · cases h
  · split at h
    · cases h; exact eMono.sL _ _ _ _
    · cases h
  · split at h
    · cases h; exact eMono.sR _ _ _ _
    · cases h
  · cases h
theorem mo_NewA {k len : Nat} (h : eNewA k pc len ls st m = some (pc', ls', st', m')) : eMono m m' := by
  unfold eNewA at h; split at h
  · split at h
    · obtain ⟨-, -, -, rfl⟩ := eGo_inj h
      exact eMono.sN _ _
    · cases h
  · cases h
set_option maxHeartbeats 4000000 in
theorem alu_mono {cc d : Nat} {ini : Bool} {i : Instr} (h : alu cc ini d i pc ls st m = some (pc', ls', st', m')) : eMono m m' := by
  cases i
  case iinc i n =>
    have h : (match ls[i]? with
      | some (.int x) => eGo (pc + 3) (eSet1 ls i (.int (x + Int32.ofInt n))) st m
      | _ => none) = some (pc', ls', st', m') := h
    split at h <;> first | exact mo_go h | cases h
  case ifCond k off =>
    have h : eIf _ pc off ls st m = some (pc', ls', st', m') := h
    unfold eIf at h
    split at h
    · split at h <;> first | exact mo_go h | cases h
    · cases h
  case if_icmp k off =>
    have h : eIf2 _ pc off ls st m = some (pc', ls', st', m') := h
    unfold eIf2 at h
    split at h
    · split at h <;> first | exact mo_go h | cases h
    · cases h
  case ifnonnull off =>
    have h : eNn pc off ls st m = some (pc', ls', st', m') := h
    unfold eNn at h
    split at h
    · split at h <;> first | exact mo_go h | cases h
    · cases h
  case tableswitch a b c d =>
    have h : eTab a b c d pc ls st m = some (pc', ls', st', m') := h
    unfold eTab at h
    split at h
    · split at h
      · exact mo_Jmp h
      · split at h <;> first | exact mo_Jmp h | cases h
    · cases h
  case getfield k =>
    have h : eGetF (fAny cc k) pc ls st m = some (pc', ls', st', m') := h
    unfold eGetF at h
    split at h
    · split at h <;> first | exact mo_go h | cases h
    · cases h
  case putfield k =>
    have h : ePutF (fAny cc k) cc ini pc ls st m = some (pc', ls', st', m') := h
    unfold ePutF at h
    split at h
    · split at h
      · split at h
        · rename_i hp
          obtain ⟨-, -, -, rfl⟩ := eGo_inj h
          exact mo_Put hp
        · cases h
      · cases h
    · cases h
  case arraylength =>
    have h : eAlen pc ls st m = some (pc', ls', st', m') := h
    unfold eAlen at h
    split at h
    · split at h <;> first | exact mo_go h | cases h
    · cases h
  case iaload =>
    have h : eAld 20 pc ls st m = some (pc', ls', st', m') := h
    unfold eAld at h
    split at h
    · split at h <;> first | exact mo_go h | cases h
    · cases h
  case laload =>
    have h : eAld 21 pc ls st m = some (pc', ls', st', m') := h
    unfold eAld at h
    split at h
    · split at h <;> first | exact mo_go h | cases h
    · cases h
  case caload =>
    have h : eAld 22 pc ls st m = some (pc', ls', st', m') := h
    unfold eAld at h
    split at h
    · split at h <;> first | exact mo_go h | cases h
    · cases h
  case baload =>
    have h : eAld 23 pc ls st m = some (pc', ls', st', m') := h
    unfold eAld at h
    split at h
    · split at h <;> first | exact mo_go h | cases h
    · cases h
  case aaload =>
    have h : eAld 24 pc ls st m = some (pc', ls', st', m') := h
    unfold eAld at h
    split at h
    · split at h <;> first | exact mo_go h | cases h
    · cases h
  case iastore =>
    have h : eAst 20 pc _ ls st m = some (pc', ls', st', m') := h
    unfold eAst at h
    split at h
    · split at h
      · obtain ⟨-, -, -, rfl⟩ := eGo_inj h
        exact eMono.sI _ _ _ _
      · cases h
    · cases h
  case castore =>
    have h : eAst 22 pc _ ls st m = some (pc', ls', st', m') := h
    unfold eAst at h
    split at h
    · split at h
      · obtain ⟨-, -, -, rfl⟩ := eGo_inj h
        exact eMono.sI _ _ _ _
      · cases h
    · cases h
  case bastore =>
    have h : eAst 23 pc _ ls st m = some (pc', ls', st', m') := h
    unfold eAst at h
    split at h
    · split at h
      · obtain ⟨-, -, -, rfl⟩ := eGo_inj h
        exact eMono.sI _ _ _ _
      · cases h
    · cases h
  case lastore =>
    have h : eAstL pc ls st m = some (pc', ls', st', m') := h
    unfold eAstL at h
    split at h
    · split at h
      · obtain ⟨-, -, -, rfl⟩ := eGo_inj h
        exact eMono.sL _ _ _ _
      · cases h
    · cases h
  case aastore =>
    have h : eAstR pc ls st m = some (pc', ls', st', m') := h
    unfold eAstR at h
    split at h
    · split at h
      · obtain ⟨-, -, -, rfl⟩ := eGo_inj h
        exact eMono.sR _ _ _ _
      · cases h
    · cases h
  case new k =>
    have h : eNew (nRes cc k) pc ls st m = some (pc', ls', st', m') := h
    unfold eNew at h
    split at h
    · split at h
      · obtain ⟨-, -, -, rfl⟩ := eGo_inj h
        exact eMono.sN _ _
      · cases h
    · cases h
  case anewarray k =>
    have h : (if nRes cc k = some 6 then eNewA 24 pc 3 ls st m else none) = some (pc', ls', st', m') := h
    split at h <;> first | exact mo_NewA h | cases h
  case invokespecial k =>
    have h : eObj (oRes cc k) d pc ls st m = some (pc', ls', st', m') := h
    unfold eObj at h
    split at h
    · split at h <;> first | exact mo_go h | cases h
    · cases h
  case invokestatic k =>
    have h : eMath (aRes cc k) d pc ls st m = some (pc', ls', st', m') := h
    unfold eMath at h
    split at h <;> first | (split at h <;> first | exact mo_go h | cases h) | cases h
  case dup =>
    have h : eDup pc ls st m = some (pc', ls', st', m') := h
    unfold eDup at h
    split at h
    · split at h <;> first | exact mo_go h | cases h
    · cases h
  case pop =>
    have h : ePop pc ls st m = some (pc', ls', st', m') := h
    unfold ePop at h
    split at h
    · split at h <;> first | exact mo_go h | cases h
    · cases h
  case dup2 =>
    have h : eDup2 pc ls st m = some (pc', ls', st', m') := h
    unfold eDup2 at h
    split at h
    · split at h
      · exact mo_go h
      · split at h
        · split at h <;> first | exact mo_go h | cases h
        · cases h
    · cases h
  all_goals first
    | exact mo_go h
    | exact mo_Ld h
    | exact mo_St h
    | exact mo_2I h
    | exact mo_2L h
    | exact mo_1I h
    | exact mo_1L h
    | exact mo_LI h
    | exact mo_C h
    | exact mo_Div h
    | exact mo_DivL h
    | exact mo_Jmp h
    | exact mo_NewA h
    | cases h
theorem run_mono : ∀ (n d μ pc : Nat) (ls st : List Value) (m : eM) (o : Option (Option Value)) (m' : eM), run n d μ pc ls st m = some (o, m') → eMono m m'
  | 0, _, _, _, _, _, _, _, _, h => by cases h
  | n + 1, d, μ, pc, ls, st, m, o, m', h => by
    have ih := run_mono n
    unfold run at h
    split at h
    · cases h
    · rename_i i len hd
      split at h
      · split at h
        · cases h; exact eMono.rf _
        · split at h
          · rename_i y kind hy
            split at h
            · cases h
            · rename_i d2
              split at h
              · split at h
                · rename_i v m1 h1
                  exact (ih _ _ _ _ _ _ _ _ h1).trans (ih _ _ _ _ _ _ _ _ h)
                · rename_i m1 h1
                  split at h
                  · cases h; exact ih _ _ _ _ _ _ _ _ h1
                  · cases h
                · cases h
              · cases h
          · split at h
            · cases h; exact eMono.sX _ _
            · split at h
              · rename_i h1
                exact (alu_mono h1).trans (ih _ _ _ _ _ _ _ _ h)
              · cases h
      · cases h
end
