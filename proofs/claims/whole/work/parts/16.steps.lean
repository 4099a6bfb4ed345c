/-! ===== the machine's equations, an instruction each ===== -/
def sim (i : Instr) : Bool := match i with
  | .ireturn | .lreturn | .return_ | .invokevirtual _ | .invokespecial _ | .invokestatic _ | .new _ => false
  | _ => true
theorem sim_Fin {i : Instr} (h : sim i = true) (r : Option FieldType) (st : List Value) : eFin r i st = none := by
  cases i <;> first | rfl | cases h
theorem sim_Call {i : Instr} (h : sim i = true) (c : Nat) : eCall c i = none := by
  cases i <;> first | rfl | cases h
theorem sim_Thr {i : Instr} (h : sim i = true) (μ pc : Nat) : eThrow μ pc i = false := by
  cases i <;> first | rfl | cases h
theorem call_Fin {i : Instr} {c : Nat} {q : Nat × Nat} (h : eCall c i = some q) (r : Option FieldType) (st : List Value) : eFin r i st = none := by
  cases i <;> first | rfl | cases h
section XS
variable {d μ pc len : Nat} {ls ls' st st' : List Value} {m m' : eM} {i : Instr}
theorem x_at (hd : decode (mB μ) pc = .ok (i, len)) (hl : lenOK i len = true) (hf : eFin (mR μ) i st = none) (hc : eCall (mC μ) i = none) (ht : eThrow μ pc i = false) : X d μ pc ls st m = match alu (mC μ) (mIni μ) d i pc ls st m with
    | some (pc', ls', st', m') => X d μ pc' ls' st' m'
    | none => none := by
  rw [X_stp]
  unfold stp
  rw [hd]
  simp only [if_pos hl, hf, hc, ht, Bool.false_eq_true, false_and, if_false]
  rfl
theorem x_s (hd : decode (mB μ) pc = .ok (i, len)) (hl : lenOK i len = true) (hs : sim i = true) : X d μ pc ls st m = match alu (mC μ) (mIni μ) d i pc ls st m with
    | some (pc', ls', st', m') => X d μ pc' ls' st' m'
    | none => none := x_at hd hl (sim_Fin hs _ _) (sim_Call hs _) (sim_Thr hs _ _)
theorem x_a {pc' : Nat} (hd : decode (mB μ) pc = .ok (i, len)) (hl : lenOK i len = true) (hs : sim i = true) (ha : alu (mC μ) (mIni μ) d i pc ls st m = some (pc', ls', st', m')) : X d μ pc ls st m = X d μ pc' ls' st' m' := by
  rw [x_s hd hl hs, ha]
theorem x_iconst {n : Int} {k : Int32} (hd : decode (mB μ) pc = .ok (.iconst n, 1)) (hn : Int32.ofInt n = k) : X d μ pc ls st m = X d μ (pc + 1) ls (.int k :: st) m := hn ▸ x_a hd rfl rfl rfl
theorem x_bipush {n : Int} {k : Int32} (hd : decode (mB μ) pc = .ok (.bipush n, 2)) (hn : (Int8.ofInt n).toInt32 = k) : X d μ pc ls st m = X d μ (pc + 2) ls (.int k :: st) m := hn ▸ x_a hd rfl rfl rfl
theorem x_sipush {n : Int} {k : Int32} (hd : decode (mB μ) pc = .ok (.sipush n, 3)) (hn : (Int16.ofInt n).toInt32 = k) : X d μ pc ls st m = X d μ (pc + 3) ls (.int k :: st) m := hn ▸ x_a hd rfl rfl rfl
theorem x_lconst0 (hd : decode (mB μ) pc = .ok (.lconst 0, 1)) : X d μ pc ls st m = X d μ (pc + 1) ls (.long 0 :: st) m := x_a hd rfl rfl rfl
theorem x_lconst1 (hd : decode (mB μ) pc = .ok (.lconst 1, 1)) : X d μ pc ls st m = X d μ (pc + 1) ls (.long 1 :: st) m := x_a hd rfl rfl rfl
theorem x_ldc2 {k : Nat} {v : Int64} (hd : decode (mB μ) pc = .ok (.ldc2_w k, 3)) (hk : lRes (mC μ) k = some v) : X d μ pc ls st m = X d μ (pc + 3) ls (.long v :: st) m := x_a hd rfl rfl (by show eC (lRes (mC μ) k) .long (pc + 3) ls st m = _; rw [hk]; rfl)
theorem x_ldc {k : Nat} {v : Int32} (hd : decode (mB μ) pc = .ok (.ldc k, 2)) (hk : iRes (mC μ) k = some v) : X d μ pc ls st m = X d μ (pc + 2) ls (.int v :: st) m := x_a hd rfl rfl (by show eC (iRes (mC μ) k) .int (pc + 2) ls st m = _; rw [hk]; rfl)
theorem x_ldcw {k : Nat} {v : Int32} (hd : decode (mB μ) pc = .ok (.ldc_w k, 3)) (hk : iRes (mC μ) k = some v) : X d μ pc ls st m = X d μ (pc + 3) ls (.int v :: st) m := x_a hd rfl rfl (by show eC (iRes (mC μ) k) .int (pc + 3) ls st m = _; rw [hk]; rfl)
theorem x_iload2 {i : Nat} {x : Int32} (hd : decode (mB μ) pc = .ok (.iload i, 2)) (h : ls[i]? = some (.int x)) : X d μ pc ls st m = X d μ (pc + 2) ls (.int x :: st) m := x_a hd rfl rfl (by show eLd i 2 pc 0 ls st m = _; unfold eLd; rw [h]; rfl)
theorem x_iload1 {i : Fin 4} {x : Int32} (hd : decode (mB μ) pc = .ok (.iload_n i, 1)) (h : ls[(i : Nat)]? = some (.int x)) : X d μ pc ls st m = X d μ (pc + 1) ls (.int x :: st) m := x_a hd rfl rfl (by show eLd i 1 pc 0 ls st m = _; unfold eLd; rw [h]; rfl)
theorem x_lload2 {i : Nat} {x : Int64} (hd : decode (mB μ) pc = .ok (.lload i, 2)) (h : ls[i]? = some (.long x)) : X d μ pc ls st m = X d μ (pc + 2) ls (.long x :: st) m := x_a hd rfl rfl (by show eLd i 2 pc 1 ls st m = _; unfold eLd; rw [h]; rfl)
theorem x_lload1 {i : Fin 4} {x : Int64} (hd : decode (mB μ) pc = .ok (.lload_n i, 1)) (h : ls[(i : Nat)]? = some (.long x)) : X d μ pc ls st m = X d μ (pc + 1) ls (.long x :: st) m := x_a hd rfl rfl (by show eLd i 1 pc 1 ls st m = _; unfold eLd; rw [h]; rfl)
theorem x_aload2 {i : Nat} {x : Nat} (hd : decode (mB μ) pc = .ok (.aload i, 2)) (h : ls[i]? = some (.ref x)) : X d μ pc ls st m = X d μ (pc + 2) ls (.ref x :: st) m := x_a hd rfl rfl (by show eLd i 2 pc 2 ls st m = _; unfold eLd; rw [h]; rfl)
theorem x_aload1 {i : Fin 4} {x : Nat} (hd : decode (mB μ) pc = .ok (.aload_n i, 1)) (h : ls[(i : Nat)]? = some (.ref x)) : X d μ pc ls st m = X d μ (pc + 1) ls (.ref x :: st) m := x_a hd rfl rfl (by show eLd i 1 pc 2 ls st m = _; unfold eLd; rw [h]; rfl)
theorem x_istore2 {i : Nat} {x : Int32} (hd : decode (mB μ) pc = .ok (.istore i, 2)) (hs : eSet1 ls i (.int x) = ls') (hi : Nat.blt i ls.length = true) : X d μ pc ls (.int x :: st) m = X d μ (pc + 2) ls' st m := hs ▸ x_a hd rfl rfl (by show eSt1 i 2 pc 0 ls (.int x :: st) m = _; unfold eSt1; exact if_pos (Nat.le_of_ble_eq_true hi))
theorem x_istore1 {i : Fin 4} {x : Int32} (hd : decode (mB μ) pc = .ok (.istore_n i, 1)) (hs : eSet1 ls i (.int x) = ls') (hi : Nat.blt i ls.length = true) : X d μ pc ls (.int x :: st) m = X d μ (pc + 1) ls' st m := hs ▸ x_a hd rfl rfl (by show eSt1 i 1 pc 0 ls (.int x :: st) m = _; unfold eSt1; exact if_pos (Nat.le_of_ble_eq_true hi))
theorem x_lstore2 {i : Nat} {x : Int64} (hd : decode (mB μ) pc = .ok (.lstore i, 2)) (hs : eSet2 ls i (.long x) = ls') (hi : Nat.blt (i + 1) ls.length = true) : X d μ pc ls (.long x :: st) m = X d μ (pc + 2) ls' st m := hs ▸ x_a hd rfl rfl (by show eSt1 i 2 pc 1 ls (.long x :: st) m = _; unfold eSt1; exact if_pos (Nat.le_of_ble_eq_true hi))
theorem x_lstore1 {i : Fin 4} {x : Int64} (hd : decode (mB μ) pc = .ok (.lstore_n i, 1)) (hs : eSet2 ls i (.long x) = ls') (hi : Nat.blt (i + 1) ls.length = true) : X d μ pc ls (.long x :: st) m = X d μ (pc + 1) ls' st m := hs ▸ x_a hd rfl rfl (by show eSt1 i 1 pc 1 ls (.long x :: st) m = _; unfold eSt1; exact if_pos (Nat.le_of_ble_eq_true hi))
theorem x_astore2 {i : Nat} {x : Nat} (hd : decode (mB μ) pc = .ok (.astore i, 2)) (hs : eSet1 ls i (.ref x) = ls') (hi : Nat.blt i ls.length = true) : X d μ pc ls (.ref x :: st) m = X d μ (pc + 2) ls' st m := hs ▸ x_a hd rfl rfl (by show eSt1 i 2 pc 2 ls (.ref x :: st) m = _; unfold eSt1; exact if_pos (Nat.le_of_ble_eq_true hi))
theorem x_astore1 {i : Fin 4} {x : Nat} (hd : decode (mB μ) pc = .ok (.astore_n i, 1)) (hs : eSet1 ls i (.ref x) = ls') (hi : Nat.blt i ls.length = true) : X d μ pc ls (.ref x :: st) m = X d μ (pc + 1) ls' st m := hs ▸ x_a hd rfl rfl (by show eSt1 i 1 pc 2 ls (.ref x :: st) m = _; unfold eSt1; exact if_pos (Nat.le_of_ble_eq_true hi))
theorem x_iinc {i : Nat} {n : Int} {x k : Int32} (hd : decode (mB μ) pc = .ok (.iinc i n, 3)) (h : ls[i]? = some (.int x)) (hn : Int32.ofInt n = k) (hs : eSet1 ls i (.int (x + k)) = ls') : X d μ pc ls st m = X d μ (pc + 3) ls' st m := by
  subst hs; subst hn
  exact x_a hd rfl rfl (by show (match ls[i]? with | some (.int x) => eGo (pc + 3) (eSet1 ls i (.int (x + Int32.ofInt n))) st m | _ => none) = _; rw [h]; rfl)
theorem x_iadd {x y : Int32} (hd : decode (mB μ) pc = .ok (.iadd, 1)) : X d μ pc ls (.int y :: .int x :: st) m = X d μ (pc + 1) ls (.int (x + y) :: st) m := x_a hd rfl rfl rfl
theorem x_isub {x y : Int32} (hd : decode (mB μ) pc = .ok (.isub, 1)) : X d μ pc ls (.int y :: .int x :: st) m = X d μ (pc + 1) ls (.int (x - y) :: st) m := x_a hd rfl rfl rfl
theorem x_imul {x y : Int32} (hd : decode (mB μ) pc = .ok (.imul, 1)) : X d μ pc ls (.int y :: .int x :: st) m = X d μ (pc + 1) ls (.int (x * y) :: st) m := x_a hd rfl rfl rfl
theorem x_iand {x y : Int32} (hd : decode (mB μ) pc = .ok (.iand, 1)) : X d μ pc ls (.int y :: .int x :: st) m = X d μ (pc + 1) ls (.int (x &&& y) :: st) m := x_a hd rfl rfl rfl
theorem x_ior {x y : Int32} (hd : decode (mB μ) pc = .ok (.ior, 1)) : X d μ pc ls (.int y :: .int x :: st) m = X d μ (pc + 1) ls (.int (x ||| y) :: st) m := x_a hd rfl rfl rfl
theorem x_ixor {x y : Int32} (hd : decode (mB μ) pc = .ok (.ixor, 1)) : X d μ pc ls (.int y :: .int x :: st) m = X d μ (pc + 1) ls (.int (x ^^^ y) :: st) m := x_a hd rfl rfl rfl
theorem x_ishl {x y : Int32} (hd : decode (mB μ) pc = .ok (.ishl, 1)) : X d μ pc ls (.int y :: .int x :: st) m = X d μ (pc + 1) ls (.int (x <<< (y &&& 31)) :: st) m := x_a hd rfl rfl rfl
theorem x_ishr {x y : Int32} (hd : decode (mB μ) pc = .ok (.ishr, 1)) : X d μ pc ls (.int y :: .int x :: st) m = X d μ (pc + 1) ls (.int (x >>> (y &&& 31)) :: st) m := x_a hd rfl rfl rfl
theorem x_iushr {x y : Int32} (hd : decode (mB μ) pc = .ok (.iushr, 1)) : X d μ pc ls (.int y :: .int x :: st) m = X d μ (pc + 1) ls (.int (x.toUInt32 >>> (y.toUInt32 &&& Int32.toUInt32 31)).toInt32 :: st) m := x_a hd rfl rfl rfl
theorem x_ineg {x : Int32} (hd : decode (mB μ) pc = .ok (.ineg, 1)) : X d μ pc ls (.int x :: st) m = X d μ (pc + 1) ls (.int (-x) :: st) m := x_a hd rfl rfl rfl
theorem x_ladd {x y : Int64} (hd : decode (mB μ) pc = .ok (.ladd, 1)) : X d μ pc ls (.long y :: .long x :: st) m = X d μ (pc + 1) ls (.long (x + y) :: st) m := x_a hd rfl rfl rfl
theorem x_lsub {x y : Int64} (hd : decode (mB μ) pc = .ok (.lsub, 1)) : X d μ pc ls (.long y :: .long x :: st) m = X d μ (pc + 1) ls (.long (x - y) :: st) m := x_a hd rfl rfl rfl
theorem x_lmul {x y : Int64} (hd : decode (mB μ) pc = .ok (.lmul, 1)) : X d μ pc ls (.long y :: .long x :: st) m = X d μ (pc + 1) ls (.long (x * y) :: st) m := x_a hd rfl rfl rfl
theorem x_land {x y : Int64} (hd : decode (mB μ) pc = .ok (.land, 1)) : X d μ pc ls (.long y :: .long x :: st) m = X d μ (pc + 1) ls (.long (x &&& y) :: st) m := x_a hd rfl rfl rfl
theorem x_lor {x y : Int64} (hd : decode (mB μ) pc = .ok (.lor, 1)) : X d μ pc ls (.long y :: .long x :: st) m = X d μ (pc + 1) ls (.long (x ||| y) :: st) m := x_a hd rfl rfl rfl
theorem x_lxor {x y : Int64} (hd : decode (mB μ) pc = .ok (.lxor, 1)) : X d μ pc ls (.long y :: .long x :: st) m = X d μ (pc + 1) ls (.long (x ^^^ y) :: st) m := x_a hd rfl rfl rfl
theorem x_lcmp {x y : Int64} (hd : decode (mB μ) pc = .ok (.lcmp, 1)) : X d μ pc ls (.long y :: .long x :: st) m = X d μ (pc + 1) ls (.int (lg_cmp x y) :: st) m := x_a hd rfl rfl rfl
theorem x_lshl {x : Int64} {y : Int32} (hd : decode (mB μ) pc = .ok (.lshl, 1)) : X d μ pc ls (.int y :: .long x :: st) m = X d μ (pc + 1) ls (.long (x <<< (y.toInt64 &&& 63)) :: st) m := x_a hd rfl rfl rfl
theorem x_lshr {x : Int64} {y : Int32} (hd : decode (mB μ) pc = .ok (.lshr, 1)) : X d μ pc ls (.int y :: .long x :: st) m = X d μ (pc + 1) ls (.long (x >>> (y.toInt64 &&& 63)) :: st) m := x_a hd rfl rfl rfl
theorem x_lushr {x : Int64} {y : Int32} (hd : decode (mB μ) pc = .ok (.lushr, 1)) : X d μ pc ls (.int y :: .long x :: st) m = X d μ (pc + 1) ls (.long (x.toUInt64 >>> (y.toInt64.toUInt64 &&& Int64.toUInt64 63)).toInt64 :: st) m := x_a hd rfl rfl rfl
theorem x_i2l {x : Int32} (hd : decode (mB μ) pc = .ok (.i2l, 1)) : X d μ pc ls (.int x :: st) m = X d μ (pc + 1) ls (.long x.toInt64 :: st) m := x_a hd rfl rfl rfl
theorem x_l2i {x : Int64} (hd : decode (mB μ) pc = .ok (.l2i, 1)) : X d μ pc ls (.long x :: st) m = X d μ (pc + 1) ls (.int x.toInt32 :: st) m := x_a hd rfl rfl rfl
theorem x_i2c {x : Int32} (hd : decode (mB μ) pc = .ok (.i2c, 1)) : X d μ pc ls (.int x :: st) m = X d μ (pc + 1) ls (.int (x.toUInt32 % 65536).toInt32 :: st) m := x_a hd rfl rfl rfl
theorem x_div {x y : Int32} (hd : decode (mB μ) pc = .ok (.idiv, 1)) : X d μ pc ls (.int y :: .int x :: st) m = if y = 0 then none else X d μ (pc + 1) ls (.int (x / y) :: st) m := by
  have e : alu (mC μ) (mIni μ) d .idiv pc ls (.int y :: .int x :: st) m = eDiv (pc + 1) (fun x y => .int (x / y)) ls (.int y :: .int x :: st) m := rfl
  rw [x_s hd rfl rfl, e]
  unfold eDiv
  by_cases h : y = 0
  · simp only [if_pos h]
  · simp only [if_neg h]; rfl
theorem x_rem {x y : Int32} (hd : decode (mB μ) pc = .ok (.irem, 1)) : X d μ pc ls (.int y :: .int x :: st) m = if y = 0 then none else X d μ (pc + 1) ls (.int (x - x / y * y) :: st) m := by
  have e : alu (mC μ) (mIni μ) d .irem pc ls (.int y :: .int x :: st) m = eDiv (pc + 1) (fun x y => .int (x - x / y * y)) ls (.int y :: .int x :: st) m := rfl
  rw [x_s hd rfl rfl, e]
  unfold eDiv
  by_cases h : y = 0
  · simp only [if_pos h]
  · simp only [if_neg h]; rfl
theorem x_ldiv {x y : Int64} (hd : decode (mB μ) pc = .ok (.ldiv, 1)) : X d μ pc ls (.long y :: .long x :: st) m = if y = 0 then none else X d μ (pc + 1) ls (.long (x / y) :: st) m := by
  have e : alu (mC μ) (mIni μ) d .ldiv pc ls (.long y :: .long x :: st) m = eDivL (pc + 1) (fun x y => .long (x / y)) ls (.long y :: .long x :: st) m := rfl
  rw [x_s hd rfl rfl, e]
  unfold eDivL
  by_cases h : y = 0
  · simp only [if_pos h]
  · simp only [if_neg h]; rfl
theorem x_lrem {x y : Int64} (hd : decode (mB μ) pc = .ok (.lrem, 1)) : X d μ pc ls (.long y :: .long x :: st) m = if y = 0 then none else X d μ (pc + 1) ls (.long (x - x / y * y) :: st) m := by
  have e : alu (mC μ) (mIni μ) d .lrem pc ls (.long y :: .long x :: st) m = eDivL (pc + 1) (fun x y => .long (x - x / y * y)) ls (.long y :: .long x :: st) m := rfl
  rw [x_s hd rfl rfl, e]
  unfold eDivL
  by_cases h : y = 0
  · simp only [if_pos h]
  · simp only [if_neg h]; rfl
theorem x_dup1 {v : Value} (hd : decode (mB μ) pc = .ok (.dup, 1)) (hv : v.category = 1) : X d μ pc ls (v :: st) m = X d μ (pc + 1) ls (v :: v :: st) m := x_a hd rfl rfl (by show eDup pc ls (v :: st) m = _; unfold eDup; exact if_pos hv)
theorem x_dup2L {x : Int64} (hd : decode (mB μ) pc = .ok (.dup2, 1)) : X d μ pc ls (.long x :: st) m = X d μ (pc + 1) ls (.long x :: .long x :: st) m := x_a hd rfl rfl rfl
theorem x_dup2I {v w : Value} (hd : decode (mB μ) pc = .ok (.dup2, 1)) (hv : v.category = 1) (hw : w.category = 1) : X d μ pc ls (v :: w :: st) m = X d μ (pc + 1) ls (v :: w :: v :: w :: st) m := x_a hd rfl rfl (by show eDup2 pc ls (v :: w :: st) m = _; unfold eDup2; simp only [hv, hw]; rfl)
theorem x_pop {v : Value} (hd : decode (mB μ) pc = .ok (.pop, 1)) (hv : v.category = 1) : X d μ pc ls (v :: st) m = X d μ (pc + 1) ls st m := x_a hd rfl rfl (by show ePop pc ls (v :: st) m = _; unfold ePop; exact if_pos hv)
/-- a branch's row -/
def BR (μ pc : Nat) (i : Instr) (off : Int) (T : Nat) : Prop := decode (mB μ) pc = .ok (i, 3) ∧ 0 ≤ (pc : Int) + off ∧ eT pc off = T
theorem x_goto {off : Int} {T : Nat} (B : BR μ pc (.goto off) off T) : X d μ pc ls st m = X d μ T ls st m := B.2.2 ▸ x_a B.1 rfl rfl (by show eJmp pc off ls st m = _; unfold eJmp; exact if_pos B.2.1)
theorem x_nn {off : Int} {T a : Nat} (B : BR μ pc (.ifnonnull off) off T) : X d μ pc ls (.ref a :: st) m = X d μ T ls st m := B.2.2 ▸ x_a B.1 rfl rfl (by show eNn pc off ls (.ref a :: st) m = _; unfold eNn; exact if_pos B.2.1)
theorem x_if {off : Int} {T : Nat} {k : Jvm.ClassFile.Cond} {x : Int32} (B : BR μ pc (.ifCond k off) off T) : X d μ pc ls (.int x :: st) m = if eH k x 0 = true then X d μ T ls st m else X d μ (pc + 3) ls st m := by
  have h : X d μ pc ls (.int x :: st) m = X d μ (if eH k x 0 = true then eT pc off else pc + 3) ls st m := x_a B.1 rfl rfl (by show eIf (fun x => eH k x 0) pc off ls (.int x :: st) m = _; unfold eIf; exact if_pos B.2.1)
  rw [h, B.2.2]
  split <;> rfl
theorem x_if2 {off : Int} {T : Nat} {k : Jvm.ClassFile.Cond} {x y : Int32} (B : BR μ pc (.if_icmp k off) off T) : X d μ pc ls (.int y :: .int x :: st) m = if eH k x y = true then X d μ T ls st m else X d μ (pc + 3) ls st m := by
  have h : X d μ pc ls (.int y :: .int x :: st) m = X d μ (if eH k x y = true then eT pc off else pc + 3) ls st m := x_a B.1 rfl rfl (by show eIf2 (fun x y => eH k x y) pc off ls (.int y :: .int x :: st) m = _; unfold eIf2; exact if_pos B.2.1)
  rw [h, B.2.2]
  split <;> rfl
theorem ite_dec {p : Prop} (q : Decidable p) {a b : oX} : (if @decide p q = true then a else b) = @ite _ p q a b := by
  by_cases h : p
  · rw [if_pos (decide_eq_true h), if_pos h]
  · rw [if_neg (fun z => h (of_decide_eq_true z)), if_neg h]
theorem x_ifeq {off : Int} {T : Nat} {x : Int32} (B : BR μ pc (.ifCond .eq off) off T) : X d μ pc ls (.int x :: st) m = if x = 0 then X d μ T ls st m else X d μ (pc + 3) ls st m := (x_if B).trans (ite_dec _)
theorem x_ifne {off : Int} {T : Nat} {x : Int32} (B : BR μ pc (.ifCond .ne off) off T) : X d μ pc ls (.int x :: st) m = if ¬ x = 0 then X d μ T ls st m else X d μ (pc + 3) ls st m := (x_if B).trans (ite_dec _)
theorem x_iflt {off : Int} {T : Nat} {x : Int32} (B : BR μ pc (.ifCond .lt off) off T) : X d μ pc ls (.int x :: st) m = if x < 0 then X d μ T ls st m else X d μ (pc + 3) ls st m := (x_if B).trans (ite_dec _)
theorem x_ifge {off : Int} {T : Nat} {x : Int32} (B : BR μ pc (.ifCond .ge off) off T) : X d μ pc ls (.int x :: st) m = if 0 ≤ x then X d μ T ls st m else X d μ (pc + 3) ls st m := (x_if B).trans (ite_dec _)
theorem x_ifgt {off : Int} {T : Nat} {x : Int32} (B : BR μ pc (.ifCond .gt off) off T) : X d μ pc ls (.int x :: st) m = if 0 < x then X d μ T ls st m else X d μ (pc + 3) ls st m := (x_if B).trans (ite_dec _)
theorem x_ifle {off : Int} {T : Nat} {x : Int32} (B : BR μ pc (.ifCond .le off) off T) : X d μ pc ls (.int x :: st) m = if x ≤ 0 then X d μ T ls st m else X d μ (pc + 3) ls st m := (x_if B).trans (ite_dec _)
theorem x_ceq {off : Int} {T : Nat} {x y : Int32} (B : BR μ pc (.if_icmp .eq off) off T) : X d μ pc ls (.int y :: .int x :: st) m = if x = y then X d μ T ls st m else X d μ (pc + 3) ls st m := (x_if2 B).trans (ite_dec _)
theorem x_cne {off : Int} {T : Nat} {x y : Int32} (B : BR μ pc (.if_icmp .ne off) off T) : X d μ pc ls (.int y :: .int x :: st) m = if ¬ x = y then X d μ T ls st m else X d μ (pc + 3) ls st m := (x_if2 B).trans (ite_dec _)
theorem x_clt {off : Int} {T : Nat} {x y : Int32} (B : BR μ pc (.if_icmp .lt off) off T) : X d μ pc ls (.int y :: .int x :: st) m = if x < y then X d μ T ls st m else X d μ (pc + 3) ls st m := (x_if2 B).trans (ite_dec _)
theorem x_cge {off : Int} {T : Nat} {x y : Int32} (B : BR μ pc (.if_icmp .ge off) off T) : X d μ pc ls (.int y :: .int x :: st) m = if y ≤ x then X d μ T ls st m else X d μ (pc + 3) ls st m := (x_if2 B).trans (ite_dec _)
theorem x_cgt {off : Int} {T : Nat} {x y : Int32} (B : BR μ pc (.if_icmp .gt off) off T) : X d μ pc ls (.int y :: .int x :: st) m = if y < x then X d μ T ls st m else X d μ (pc + 3) ls st m := (x_if2 B).trans (ite_dec _)
theorem x_cle {off : Int} {T : Nat} {x y : Int32} (B : BR μ pc (.if_icmp .le off) off T) : X d μ pc ls (.int y :: .int x :: st) m = if x ≤ y then X d μ T ls st m else X d μ (pc + 3) ls st m := (x_if2 B).trans (ite_dec _)
/-! fields, arrays -/
theorem gd_t {a c : Nat} {o : oX} (h : kd a = c) : gd a c o = o := if_pos h
theorem gd_c {a c : Nat} {o o' : oX} (h : kd a = c → o = o') : gd a c o = gd a c o' := by
  unfold gd
  by_cases z : kd a = c
  · rw [if_pos z, if_pos z, h z]
  · rw [if_neg z, if_neg z]
theorem ga_c {m : eM} {a k : Nat} {j : Int32} {o o' : oX} (h : o = o') : ga m a k j o = ga m a k j o' := by rw [h]
theorem bR_c {o : Option Nat} {k k' : Nat → oX} (h : ∀ a, k a = k' a) : bR o k = bR o k' := by rw [funext h]
theorem bI_c {o : oX} {k k' : Int32 → eM → oX} (h : ∀ v m, k v m = k' v m) : bI o k = bI o k' := by rw [show k = k' from funext fun v => funext fun m => h v m]
theorem bL_c {o : oX} {k k' : Int64 → eM → oX} (h : ∀ v m, k v m = k' v m) : bL o k = bL o k' := by rw [show k = k' from funext fun v => funext fun m => h v m]
theorem bV_c {o : oX} {k k' : eM → oX} (h : ∀ m, k m = k' m) : bV o k = bV o k' := by rw [funext h]
theorem kd3 {a c : Nat} (h : kd a = c) (h0 : c ≠ 20) (h1 : c ≠ 21) : 3 ≤ a := by
  match a, h with
  | 0, h => exact absurd h.symm (by rw [kd_0.1]; exact h0)
  | 1, h => exact absurd h.symm (by rw [kd_0.2.1]; exact h1)
  | 2, h => exact absurd h.symm (by rw [kd_0.2.2.1]; exact h1)
  | n + 3, _ => omega
def GF (μ pc ci j ty : Nat) : Prop := ∃ k fin, decode (mB μ) pc = .ok (.getfield k, 3) ∧ fAny (mC μ) k = some (ci, j, ty, fin)
theorem x_getI {ci j a : Nat} (S : GF μ pc ci j 0) : X d μ pc ls (.ref a :: st) m = gd a ci (X d μ (pc + 3) ls (.int (gI m a j) :: st) m) := by
  obtain ⟨k, fin, hd, hf⟩ := S
  rw [x_s hd rfl rfl]
  show (match eGetF (fAny (mC μ) k) pc ls (.ref a :: st) m with | some (pc', ls', st', m') => X d μ pc' ls' st' m' | none => none) = _
  rw [hf]
  unfold eGetF gd
  by_cases h : kd a = ci
  · simp only [if_pos h, h, true_and, Nat.reduceEqDiff, false_implies, if_true]; rfl
  · simp only [if_neg h, h, false_and, if_false]
theorem x_getC {ci j a : Nat} (S : GF μ pc ci j 4) : X d μ pc ls (.ref a :: st) m = gd a ci (X d μ (pc + 3) ls (.int (gI m a j) :: st) m) := by
  obtain ⟨k, fin, hd, hf⟩ := S
  rw [x_s hd rfl rfl]
  show (match eGetF (fAny (mC μ) k) pc ls (.ref a :: st) m with | some (pc', ls', st', m') => X d μ pc' ls' st' m' | none => none) = _
  rw [hf]
  unfold eGetF gd
  by_cases h : kd a = ci
  · simp only [if_pos h, h, true_and, Nat.reduceEqDiff, false_implies, if_true]; rfl
  · simp only [if_neg h, h, false_and, if_false]
theorem x_getL {ci j a : Nat} (S : GF μ pc ci j 1) : X d μ pc ls (.ref a :: st) m = gd a ci (X d μ (pc + 3) ls (.long (gL m a j) :: st) m) := by
  obtain ⟨k, fin, hd, hf⟩ := S
  rw [x_s hd rfl rfl]
  show (match eGetF (fAny (mC μ) k) pc ls (.ref a :: st) m with | some (pc', ls', st', m') => X d μ pc' ls' st' m' | none => none) = _
  rw [hf]
  unfold eGetF gd
  by_cases h : kd a = ci
  · simp only [if_pos h, h, true_and, Nat.reduceEqDiff, false_implies, if_true]; rfl
  · simp only [if_neg h, h, false_and, if_false]
theorem x_getR {ci j a : Nat} (S : GF μ pc ci j 2) : X d μ pc ls (.ref a :: st) m = gd a ci (bR (gR m a j) fun b => X d μ (pc + 3) ls (.ref b :: st) m) := by
  obtain ⟨k, fin, hd, hf⟩ := S
  rw [x_s hd rfl rfl]
  show (match eGetF (fAny (mC μ) k) pc ls (.ref a :: st) m with | some (pc', ls', st', m') => X d μ pc' ls' st' m' | none => none) = _
  rw [hf]
  unfold eGetF gd
  by_cases h : kd a = ci
  · cases e : gR m a j with
    | none => simp only [if_pos h, h, true_and, e, true_implies, Option.isSome_none, Bool.false_eq_true, if_false]; rfl
    | some b =>
      have e2 : gF m a j 2 = .ref b := by unfold gF; rw [if_neg (by decide), if_pos rfl, e]; rfl
      simp only [if_pos h, h, true_and, e, true_implies, Option.isSome_some, if_true, e2]; rfl
  · simp only [if_neg h, h, false_and, if_false]
def PF (μ pc ci j ty : Nat) : Prop := ∃ k fin, decode (mB μ) pc = .ok (.putfield k, 3) ∧ fAny (mC μ) k = some (ci, j, ty, fin) ∧ (fin = false ∨ (mIni μ = true ∧ mC μ = ci)) ∧ ci < 11
theorem x_putF {ci j ty a : Nat} {v : Value} (S : PF μ pc ci j ty) (h : kd a = ci) : X d μ pc ls (v :: .ref a :: st) m = match ePut m a j ty v with
    | some m' => X d μ (pc + 3) ls st m'
    | none => none := by
  obtain ⟨k, fin, hd, hf, hfin, hci⟩ := S
  rw [x_s hd rfl rfl]
  show (match ePutF (fAny (mC μ) k) (mC μ) (mIni μ) pc ls (v :: .ref a :: st) m with | some (pc', ls', st', m') => X d μ pc' ls' st' m' | none => none) = _
  rw [hf]
  unfold ePutF
  simp only [if_pos (show kd a = ci ∧ 3 ≤ a ∧ (fin = false ∨ (mIni μ = true ∧ mC μ = ci)) from ⟨h, kd3 h (by omega) (by omega), hfin⟩)]
  cases ePut m a j ty v <;> rfl
theorem x_putG {ci j ty a : Nat} {v : Value} (S : PF μ pc ci j ty) : X d μ pc ls (v :: .ref a :: st) m = gd a ci (X d μ pc ls (v :: .ref a :: st) m) := by
  unfold gd
  by_cases h : kd a = ci
  · rw [if_pos h]
  · obtain ⟨k, fin, hd, hf, hfin, hci⟩ := S
    rw [if_neg h, x_s hd rfl rfl]
    show (match ePutF (fAny (mC μ) k) (mC μ) (mIni μ) pc ls (v :: .ref a :: st) m with | some (pc', ls', st', m') => X d μ pc' ls' st' m' | none => none) = _
    rw [hf]
    unfold ePutF
    simp only [h, false_and, if_false]
theorem x_putI {ci j a : Nat} {x : Int32} (S : PF μ pc ci j 0) (h : kd a = ci) : X d μ pc ls (.int x :: .ref a :: st) m = X d μ (pc + 3) ls st (sI m a j x) := x_putF S h
theorem x_putL {ci j a : Nat} {x : Int64} (S : PF μ pc ci j 1) (h : kd a = ci) : X d μ pc ls (.long x :: .ref a :: st) m = X d μ (pc + 3) ls st (sL m a j x) := x_putF S h
theorem x_putR {ci j a b : Nat} (S : PF μ pc ci j 2) (h : kd a = ci) : X d μ pc ls (.ref b :: .ref a :: st) m = X d μ (pc + 3) ls st (sR m a j (some b)) := x_putF S h
def pC (x : Int32) (o : oX) : oX := if 0 ≤ x ∧ x ≤ 65535 then o else none
theorem x_putC {ci j a : Nat} {x : Int32} (S : PF μ pc ci j 4) (h : kd a = ci) : X d μ pc ls (.int x :: .ref a :: st) m = pC x (X d μ (pc + 3) ls st (sI m a j x)) := by
  rw [x_putF S h]
  unfold ePut pC
  simp only [Nat.reduceEqDiff, if_false, if_true]
  by_cases z : 0 ≤ x ∧ x ≤ 65535
  · simp only [if_pos z]
  · simp only [if_neg z]
theorem x_Ald {k : Nat} {j : Int32} {a : Nat} (ha : alu (mC μ) (mIni μ) d i pc ls (.int j :: .ref a :: st) m = eAld k pc ls (.int j :: .ref a :: st) m) (hd : decode (mB μ) pc = .ok (i, 1)) (hl : lenOK i 1 = true) (hs : sim i = true) (hk : k ≠ 24) : X d μ pc ls (.int j :: .ref a :: st) m = ga m a k j (X d μ (pc + 1) ls ((if k = 21 then .long (gL m a j.toNatClampNeg) else .int (gI m a j.toNatClampNeg)) :: st) m) := by
  rw [x_s hd hl hs, ha]
  unfold eAld ga
  by_cases h : kd a = k ∧ eIn m a j = true
  · simp only [if_pos h, if_pos (show kd a = k ∧ eIn m a j = true ∧ (k = 24 → (gR m a j.toNatClampNeg).isSome = true) from ⟨h.1, h.2, fun z => absurd z hk⟩), if_neg hk]; rfl
  · simp only [if_neg h, if_neg (show ¬ (kd a = k ∧ eIn m a j = true ∧ (k = 24 → (gR m a j.toNatClampNeg).isSome = true)) from fun z => h ⟨z.1, z.2.1⟩)]
theorem x_iaload {j : Int32} {a : Nat} (hd : decode (mB μ) pc = .ok (.iaload, 1)) : X d μ pc ls (.int j :: .ref a :: st) m = ga m a 20 j (X d μ (pc + 1) ls (.int (gI m a j.toNatClampNeg) :: st) m) := x_Ald (k := 20) rfl hd rfl rfl (by decide)
theorem x_laload {j : Int32} {a : Nat} (hd : decode (mB μ) pc = .ok (.laload, 1)) : X d μ pc ls (.int j :: .ref a :: st) m = ga m a 21 j (X d μ (pc + 1) ls (.long (gL m a j.toNatClampNeg) :: st) m) := x_Ald (k := 21) rfl hd rfl rfl (by decide)
theorem x_caload {j : Int32} {a : Nat} (hd : decode (mB μ) pc = .ok (.caload, 1)) : X d μ pc ls (.int j :: .ref a :: st) m = ga m a 22 j (X d μ (pc + 1) ls (.int (gI m a j.toNatClampNeg) :: st) m) := x_Ald (k := 22) rfl hd rfl rfl (by decide)
theorem x_baload {j : Int32} {a : Nat} (hd : decode (mB μ) pc = .ok (.baload, 1)) : X d μ pc ls (.int j :: .ref a :: st) m = ga m a 23 j (X d μ (pc + 1) ls (.int (gI m a j.toNatClampNeg) :: st) m) := x_Ald (k := 23) rfl hd rfl rfl (by decide)
theorem x_aaload {j : Int32} {a : Nat} (hd : decode (mB μ) pc = .ok (.aaload, 1)) : X d μ pc ls (.int j :: .ref a :: st) m = ga m a 24 j (bR (gR m a j.toNatClampNeg) fun b => X d μ (pc + 1) ls (.ref b :: st) m) := by
  have e0 : alu (mC μ) (mIni μ) d .aaload pc ls (.int j :: .ref a :: st) m = if kd a = 24 ∧ eIn m a j = true ∧ (24 = 24 → (gR m a j.toNatClampNeg).isSome = true) then eGo (pc + 1) ls (vr (gR m a j.toNatClampNeg) :: st) m else none := rfl
  rw [x_s hd rfl rfl, e0]
  unfold ga
  by_cases h : kd a = 24 ∧ eIn m a j = true
  · cases e : gR m a j.toNatClampNeg with
    | none =>
      rw [if_pos h, if_neg (show ¬ (kd a = 24 ∧ eIn m a j = true ∧ (24 = 24 → (none : Option Nat).isSome = true)) from fun z => by cases z.2.2 rfl)]
      rfl
    | some b =>
      rw [if_pos h, if_pos (show kd a = 24 ∧ eIn m a j = true ∧ (24 = 24 → (some b).isSome = true) from ⟨h.1, h.2, fun _ => rfl⟩)]
      rfl
  · rw [if_neg h, if_neg (show ¬ (kd a = 24 ∧ eIn m a j = true ∧ (24 = 24 → (gR m a j.toNatClampNeg).isSome = true)) from fun z => h ⟨z.1, z.2.1⟩)]
def gw (m : eM) (a k : Nat) (j : Int32) (o : oX) : oX := if kd a = k ∧ eIn m a j = true ∧ 3 ≤ a then o else none
theorem gw_c {a k : Nat} {j : Int32} {o o' : oX} (h : o = o') : gw m a k j o = gw m a k j o' := by rw [h]
theorem x_Ast {k : Nat} {f : Int32 → Int32} {j x : Int32} {a : Nat} (ha : alu (mC μ) (mIni μ) d i pc ls (.int x :: .int j :: .ref a :: st) m = eAst k pc f ls (.int x :: .int j :: .ref a :: st) m) (hd : decode (mB μ) pc = .ok (i, 1)) (hl : lenOK i 1 = true) (hs : sim i = true) : X d μ pc ls (.int x :: .int j :: .ref a :: st) m = gw m a k j (X d μ (pc + 1) ls st (sI m a j.toNatClampNeg (f x))) := by
  rw [x_s hd hl hs, ha]
  unfold eAst gw
  by_cases h : kd a = k ∧ eIn m a j = true ∧ 3 ≤ a
  · simp only [if_pos h]; rfl
  · simp only [if_neg h]
theorem x_iastore {j x : Int32} {a : Nat} (hd : decode (mB μ) pc = .ok (.iastore, 1)) : X d μ pc ls (.int x :: .int j :: .ref a :: st) m = gw m a 20 j (X d μ (pc + 1) ls st (sI m a j.toNatClampNeg x)) := x_Ast (k := 20) (f := fun x => x) rfl hd rfl rfl
theorem x_castore {j x : Int32} {a : Nat} (hd : decode (mB μ) pc = .ok (.castore, 1)) : X d μ pc ls (.int x :: .int j :: .ref a :: st) m = gw m a 22 j (X d μ (pc + 1) ls st (sI m a j.toNatClampNeg (x.toUInt32.toUInt16.toUInt32.toInt32))) := x_Ast (k := 22) (f := fun x => x.toUInt32.toUInt16.toUInt32.toInt32) rfl hd rfl rfl
theorem x_bastore {j x : Int32} {a : Nat} (hd : decode (mB μ) pc = .ok (.bastore, 1)) : X d μ pc ls (.int x :: .int j :: .ref a :: st) m = gw m a 23 j (X d μ (pc + 1) ls st (sI m a j.toNatClampNeg (x &&& 1))) := x_Ast (k := 23) (f := fun x => x &&& 1) rfl hd rfl rfl
theorem x_lastore {j : Int32} {x : Int64} {a : Nat} (hd : decode (mB μ) pc = .ok (.lastore, 1)) : X d μ pc ls (.long x :: .int j :: .ref a :: st) m = gw m a 21 j (X d μ (pc + 1) ls st (sL m a j.toNatClampNeg x)) := by
  rw [x_s hd rfl rfl]
  show (match eAstL pc ls (.long x :: .int j :: .ref a :: st) m with | some (pc', ls', st', m') => X d μ pc' ls' st' m' | none => none) = _
  unfold eAstL gw
  by_cases h : kd a = 21 ∧ eIn m a j = true ∧ 3 ≤ a
  · simp only [if_pos h]; rfl
  · simp only [if_neg h]
def gwR (m : eM) (a b : Nat) (j : Int32) (o : oX) : oX := if kd a = 24 ∧ kd b = 6 ∧ eIn m a j = true ∧ 3 ≤ a then o else none
theorem gwR_c {a k : Nat} {j : Int32} {o o' : oX} (h : o = o') : gwR m a k j o = gwR m a k j o' := by rw [h]
theorem x_aastore {j : Int32} {x a : Nat} (hd : decode (mB μ) pc = .ok (.aastore, 1)) : X d μ pc ls (.ref x :: .int j :: .ref a :: st) m = gwR m a x j (X d μ (pc + 1) ls st (sR m a j.toNatClampNeg (some x))) := by
  rw [x_s hd rfl rfl]
  show (match eAstR pc ls (.ref x :: .int j :: .ref a :: st) m with | some (pc', ls', st', m') => X d μ pc' ls' st' m' | none => none) = _
  unfold eAstR gwR
  by_cases h : kd a = 24 ∧ kd x = 6 ∧ eIn m a j = true ∧ 3 ≤ a
  · simp only [if_pos h]; rfl
  · simp only [if_neg h]
def gl (a : Nat) (o : oX) : oX := if 20 ≤ kd a ∧ kd a ≤ 24 then o else none
theorem gl_c {a : Nat} {o o' : oX} (h : o = o') : gl a o = gl a o' := by rw [h]
theorem x_alen {a : Nat} (hd : decode (mB μ) pc = .ok (.arraylength, 1)) : X d μ pc ls (.ref a :: st) m = gl a (X d μ (pc + 1) ls (.int (aln m a).toInt32 :: st) m) := by
  rw [x_s hd rfl rfl]
  show (match eAlen pc ls (.ref a :: st) m with | some (pc', ls', st', m') => X d μ pc' ls' st' m' | none => none) = _
  unfold eAlen gl
  by_cases h : 20 ≤ kd a ∧ kd a ≤ 24
  · simp only [if_pos h]; rfl
  · simp only [if_neg h]
theorem x_gets {k a : Nat} (hd : decode (mB μ) pc = .ok (.getstatic k, 3)) (hk : sRes (mC μ) k = some a) : X d μ pc ls st m = X d μ (pc + 3) ls (.ref a :: st) m := x_a hd rfl rfl (by show eC (sRes (mC μ) k) .ref (pc + 3) ls st m = _; rw [hk]; rfl)
/-! new cells -/
def nw (m : eM) (n ci : Nat) (k : Nat → eM → oX) : oX := if kd (gX m) = ci then k (gX m) (sN m n) else none
theorem nw_c {n ci : Nat} {k k' : Nat → eM → oX} (h : ∀ a m', k a m' = k' a m') : nw m n ci k = nw m n ci k' := by rw [show k = k' from funext fun v => funext fun m => h v m]
def nA (m : eM) (t : Nat) (n : Int32) (k : Nat → eM → oX) : oX := if kd (gX m) = t ∧ kl (gX m) = n.toNatClampNeg ∧ ¬ n < 0 ∧ n ≤ 100000 then k (gX m) (sN m n.toNatClampNeg) else none
theorem nA_c {t : Nat} {n : Int32} {k k' : Nat → eM → oX} (h : ∀ a m', k a m' = k' a m') : nA m t n k = nA m t n k' := by rw [show k = k' from funext fun v => funext fun m => h v m]
def NW (μ pc ci n : Nat) : Prop := ∃ k, decode (mB μ) pc = .ok (.new k, 3) ∧ nRes (mC μ) k = some ci ∧ ci < 11 ∧ eNf ci = n ∧ eThrow μ pc (.new k) = false
theorem x_new {ci n : Nat} (S : NW μ pc ci n) : X d μ pc ls st m = nw m n ci fun a m' => X d μ (pc + 3) ls (.ref a :: st) m' := by
  obtain ⟨k, hd, hn, hci, rfl, ht⟩ := S
  rw [x_at hd rfl rfl rfl ht]
  show (match eNew (nRes (mC μ) k) pc ls st m with | some (pc', ls', st', m') => X d μ pc' ls' st' m' | none => none) = _
  rw [hn]
  unfold eNew nw
  by_cases h : kd (gX m) = ci
  · simp only [if_pos h, if_pos (show kd (gX m) = ci ∧ ci < 11 from ⟨h, hci⟩)]; rfl
  · simp only [if_neg h, if_neg (show ¬ (kd (gX m) = ci ∧ ci < 11) from fun z => h z.1)]
theorem x_NewA {len : Nat} {t : Nat} {n : Int32} (ht : t ≤ 24) (ha : alu (mC μ) (mIni μ) d i pc ls (.int n :: st) m = eNewA t pc len ls (.int n :: st) m) (hd : decode (mB μ) pc = .ok (i, len)) (hl : lenOK i len = true) (hs : sim i = true) : X d μ pc ls (.int n :: st) m = nA m t n fun a m' => X d μ (pc + len) ls (.ref a :: st) m' := by
  rw [x_s hd hl hs, ha]
  unfold eNewA nA
  by_cases h : kd (gX m) = t ∧ kl (gX m) = n.toNatClampNeg ∧ ¬ n < 0 ∧ n ≤ 100000
  · simp only [if_pos h, if_pos (show kd (gX m) = t ∧ kl (gX m) = n.toNatClampNeg ∧ ¬ n < 0 ∧ n ≤ 100000 ∧ t ≤ 24 from ⟨h.1, h.2.1, h.2.2.1, h.2.2.2, ht⟩)]; rfl
  · simp only [if_neg h, if_neg (show ¬ (kd (gX m) = t ∧ kl (gX m) = n.toNatClampNeg ∧ ¬ n < 0 ∧ n ≤ 100000 ∧ t ≤ 24) from fun z => h ⟨z.1, z.2.1, z.2.2.1, z.2.2.2.1⟩)]
theorem x_newI {n : Int32} (hd : decode (mB μ) pc = .ok (.newarray .int, 2)) : X d μ pc ls (.int n :: st) m = nA m 20 n fun a m' => X d μ (pc + 2) ls (.ref a :: st) m' := x_NewA (by decide) rfl hd rfl rfl
theorem x_newJ {n : Int32} (hd : decode (mB μ) pc = .ok (.newarray .long, 2)) : X d μ pc ls (.int n :: st) m = nA m 21 n fun a m' => X d μ (pc + 2) ls (.ref a :: st) m' := x_NewA (by decide) rfl hd rfl rfl
theorem x_newC {n : Int32} (hd : decode (mB μ) pc = .ok (.newarray .char, 2)) : X d μ pc ls (.int n :: st) m = nA m 22 n fun a m' => X d μ (pc + 2) ls (.ref a :: st) m' := x_NewA (by decide) rfl hd rfl rfl
theorem x_newB {n : Int32} (hd : decode (mB μ) pc = .ok (.newarray .boolean, 2)) : X d μ pc ls (.int n :: st) m = nA m 23 n fun a m' => X d μ (pc + 2) ls (.ref a :: st) m' := x_NewA (by decide) rfl hd rfl rfl
theorem x_newR {k : Nat} {n : Int32} (hd : decode (mB μ) pc = .ok (.anewarray k, 3)) (hk : nRes (mC μ) k = some 6) : X d μ pc ls (.int n :: st) m = nA m 24 n fun a m' => X d μ (pc + 3) ls (.ref a :: st) m' := x_NewA (i := .anewarray k) (by decide) (by show (if nRes (mC μ) k = some 6 then eNewA 24 pc 3 ls (.int n :: st) m else none) = _; rw [if_pos hk]) hd rfl rfl
/-! calls -/
def OB (μ pc : Nat) : Prop := ∃ k, decode (mB μ) pc = .ok (.invokespecial k, 3) ∧ eCall (mC μ) (.invokespecial k) = none ∧ oRes (mC μ) k = true
theorem x_obj {a : Nat} (S : OB μ pc) (hc : Nat.ble (eCat st) 8 = true) : X (d + 1) μ pc ls (.ref a :: st) m = X (d + 1) μ (pc + 3) ls st m := by
  obtain ⟨k, hd, h1, h2⟩ := S
  rw [x_at hd rfl rfl h1 rfl]
  show (match eObj (oRes (mC μ) k) (d + 1) pc ls (.ref a :: st) m with | some (pc', ls', st', m') => X (d + 1) μ pc' ls' st' m' | none => none) = _
  unfold eObj
  simp only [if_pos (show oRes (mC μ) k = true ∧ 1 ≤ d + 1 ∧ eCat st ≤ 8 from ⟨h2, Nat.le_add_left _ _, Nat.le_of_ble_eq_true hc⟩)]
  rfl
def MA (μ pc t : Nat) : Prop := ∃ k, decode (mB μ) pc = .ok (.invokestatic k, 3) ∧ eCall (mC μ) (.invokestatic k) = none ∧ aRes (mC μ) k = some t
def iMax (x y : Int32) : Int32 := if x < y then y else x
def iMin (x y : Int32) : Int32 := if y < x then y else x
def iAbs (x : Int32) : Int32 := if 0 ≤ x then x else 0 - x
def lMax (x y : Int64) : Int64 := if y < x then x else y
theorem x_max {x y : Int32} (S : MA μ pc 0) (hc : Nat.ble (eCat st) 8 = true) : X (d + 1) μ pc ls (.int y :: .int x :: st) m = X (d + 1) μ (pc + 3) ls (.int (iMax x y) :: st) m := by
  obtain ⟨k, hd, h1, h2⟩ := S
  rw [x_at hd rfl rfl h1 rfl]
  show (match eMath (aRes (mC μ) k) (d + 1) pc ls (.int y :: .int x :: st) m with | some (pc', ls', st', m') => X (d + 1) μ pc' ls' st' m' | none => none) = _
  rw [h2]
  unfold eMath
  simp only [if_pos (show 1 ≤ d + 1 ∧ eCat st ≤ 8 from ⟨Nat.le_add_left _ _, Nat.le_of_ble_eq_true hc⟩)]
  rfl
theorem x_min {x y : Int32} (S : MA μ pc 1) (hc : Nat.ble (eCat st) 8 = true) : X (d + 1) μ pc ls (.int y :: .int x :: st) m = X (d + 1) μ (pc + 3) ls (.int (iMin x y) :: st) m := by
  obtain ⟨k, hd, h1, h2⟩ := S
  rw [x_at hd rfl rfl h1 rfl]
  show (match eMath (aRes (mC μ) k) (d + 1) pc ls (.int y :: .int x :: st) m with | some (pc', ls', st', m') => X (d + 1) μ pc' ls' st' m' | none => none) = _
  rw [h2]
  unfold eMath
  simp only [if_pos (show 1 ≤ d + 1 ∧ eCat st ≤ 8 from ⟨Nat.le_add_left _ _, Nat.le_of_ble_eq_true hc⟩)]
  rfl
theorem x_abs {x : Int32} (S : MA μ pc 2) (hc : Nat.ble (eCat st) 8 = true) : X (d + 1) μ pc ls (.int x :: st) m = X (d + 1) μ (pc + 3) ls (.int (iAbs x) :: st) m := by
  obtain ⟨k, hd, h1, h2⟩ := S
  rw [x_at hd rfl rfl h1 rfl]
  show (match eMath (aRes (mC μ) k) (d + 1) pc ls (.int x :: st) m with | some (pc', ls', st', m') => X (d + 1) μ pc' ls' st' m' | none => none) = _
  rw [h2]
  unfold eMath
  simp only [if_pos (show 1 ≤ d + 1 ∧ eCat st ≤ 8 from ⟨Nat.le_add_left _ _, Nat.le_of_ble_eq_true hc⟩)]
  rfl
theorem x_lmax {x y : Int64} (S : MA μ pc 3) (hc : Nat.ble (eCat st) 8 = true) : X (d + 1) μ pc ls (.long y :: .long x :: st) m = X (d + 1) μ (pc + 3) ls (.long (lMax x y) :: st) m := by
  obtain ⟨k, hd, h1, h2⟩ := S
  rw [x_at hd rfl rfl h1 rfl]
  show (match eMath (aRes (mC μ) k) (d + 1) pc ls (.long y :: .long x :: st) m with | some (pc', ls', st', m') => X (d + 1) μ pc' ls' st' m' | none => none) = _
  rw [h2]
  unfold eMath
  simp only [if_pos (show 1 ≤ d + 1 ∧ eCat st ≤ 8 from ⟨Nat.le_add_left _ _, Nat.le_of_ble_eq_true hc⟩)]
  rfl
/-- a method's facts -/
def MT (y p l : Nat) (r : Option FieldType) (c : Nat) (s ini : Bool) : Prop := mP y = p ∧ mL y = l ∧ mR y = r ∧ mC y = c ∧ mS y = s ∧ mIni y = ini
/-- a call's row -/
def CS (μ pc y kind : Nat) : Prop := ∃ i, decode (mB μ) pc = .ok (i, 3) ∧ lenOK i 3 = true ∧ eCall (mC μ) i = some (y, kind) ∧ (μ ≠ 308 ∨ pc ≠ 11)
def cOK (kind p : Nat) (ini : Bool) (as rest : List Value) : Bool := Nat.beq as.length p && Nat.ble (eCat rest) 8 && (decide (kind = 1) == ini)
/-- the locals with which a method begins, for arguments of known kinds -/
def IA (l : Nat) (as ls0 : List Value) : Prop := eIni l as = ls0 ∧ (eArg as).length ≤ l
theorem in_ok {l k : Nat} {as bs ls0 : List Value} (h3 : eArg as = bs) (hk : Nat.beq (bs.length + k) l = true) (h4 : bs ++ List.replicate k eU = ls0) : IA l as ls0 := by
  have hk := Nat.eq_of_beq_eq_true hk
  subst h3
  refine ⟨?_, by omega⟩
  unfold eIni
  rw [← h4, ← hk, Nat.add_sub_cancel_left]
theorem ok_i {y p l c kind a : Nat} {r : Option FieldType} {ini : Bool} {as rest ls0 : List Value} (M : MT y p l r c false ini) (I : IA l (.ref a :: as) ls0) (h : cOK kind p ini (.ref a :: as) rest = true) (hk : Nat.beq kind 2 = false) (ha : kd a = c) : eOK y kind (.ref a :: as) rest = true := by
  obtain ⟨m1, m2, m3, m4, m5, m6⟩ := M
  unfold cOK at h
  simp only [Bool.and_eq_true] at h
  obtain ⟨⟨h1, h2⟩, h4⟩ := h
  have h1 := Nat.eq_of_beq_eq_true h1
  have h2 := Nat.le_of_ble_eq_true h2
  have h3 := I.2
  have hk : ¬ kind = 2 := fun z => by rw [z] at hk; cases hk
  unfold eOK
  rw [m1, m2, m4, m5, m6]
  simp only [h1, h2, h3, h4, ha, if_neg hk, decide_true, Bool.not_false, Bool.and_self]
theorem ok_s {y p l c kind : Nat} {r : Option FieldType} {ini : Bool} {as rest ls0 : List Value} (M : MT y p l r c true ini) (I : IA l as ls0) (h : cOK kind p ini as rest = true) (hk : Nat.beq kind 2 = true) : eOK y kind as rest = true := by
  obtain ⟨m1, m2, m3, m4, m5, m6⟩ := M
  unfold cOK at h
  simp only [Bool.and_eq_true] at h
  obtain ⟨⟨h1, h2⟩, h4⟩ := h
  have h1 := Nat.eq_of_beq_eq_true h1
  have h2 := Nat.le_of_ble_eq_true h2
  have h3 := I.2
  have hk := Nat.eq_of_beq_eq_true hk
  unfold eOK
  rw [m1, m2, m5, m6]
  simp only [h1, h2, h3, h4, if_pos hk, decide_true, Bool.and_self]
theorem x_call {y kind p l : Nat} {r : Option FieldType} {c : Nat} {s ini : Bool} {as rest ls0 : List Value} (S : CS μ pc y kind) (M : MT y p l r c s ini) (h1 : (st.take p).reverse = as) (h2 : st.drop p = rest) (h3 : eIni l as = ls0) : X (d + 1) μ pc ls st m = if eOK y kind as rest = true then (match X d y 0 ls0 [] m with
    | some (some v, m') => X (d + 1) μ (pc + 3) ls (v.toList ++ rest) m'
    | some (none, _) => none
    | none => none) else none := by
  obtain ⟨i, hd, hl, hc, hμ⟩ := S
  obtain ⟨m1, m2, m3, m4, m5, m6⟩ := M
  rw [X_stp]
  unfold stp
  rw [hd]
  simp only [if_pos hl, call_Fin hc, hc, m1, m2, h1, h2, h3]
  by_cases hok : eOK y kind as rest = true
  · simp only [if_pos hok]
    cases X d y 0 ls0 [] m with
    | none => rfl
    | some q =>
      obtain ⟨o, m'⟩ := q
      cases o with
      | none =>
        exact if_neg fun z => by
          have : eSec = 308 := rfl
          omega
      | some v => rfl
  · simp only [if_neg hok]
theorem x_cI {y kind p l : Nat} {ty : FieldType} {c : Nat} {s ini : Bool} {as rest ls0 : List Value} (S : CS μ pc y kind) (M : MT y p l (some ty) c s ini) (hty : ty ≠ .long) (I : IA l as ls0) (h1 : (st.take p).reverse = as) (h2 : st.drop p = rest) (hok : eOK y kind as rest = true) : X (d + 1) μ pc ls st m = bI (X d y 0 ls0 [] m) fun v m' => X (d + 1) μ (pc + 3) ls (.int v :: rest) m' := by
  rw [x_call S M h1 h2 I.1, if_pos hok]
  cases h : X d y 0 ls0 [] m with
  | none => rfl
  | some q =>
    obtain ⟨o, m'⟩ := q
    cases o with
    | none => rfl
    | some v =>
      have hk := X_K h
      rw [M.2.2.1] at hk
      cases v with
      | none => cases hk
      | some w => cases w <;> first | rfl | exact absurd hk hty | cases hk
theorem x_cL {y kind p l : Nat} {c : Nat} {s ini : Bool} {as rest ls0 : List Value} (S : CS μ pc y kind) (M : MT y p l (some .long) c s ini) (I : IA l as ls0) (h1 : (st.take p).reverse = as) (h2 : st.drop p = rest) (hok : eOK y kind as rest = true) : X (d + 1) μ pc ls st m = bL (X d y 0 ls0 [] m) fun v m' => X (d + 1) μ (pc + 3) ls (.long v :: rest) m' := by
  rw [x_call S M h1 h2 I.1, if_pos hok]
  cases h : X d y 0 ls0 [] m with
  | none => rfl
  | some q =>
    obtain ⟨o, m'⟩ := q
    cases o with
    | none => rfl
    | some v =>
      have hk := X_K h
      rw [M.2.2.1] at hk
      cases v with
      | none => cases hk
      | some w => cases w <;> first | rfl | cases hk | exact absurd rfl hk
theorem x_cV {y kind p l : Nat} {c : Nat} {s ini : Bool} {as rest ls0 : List Value} (S : CS μ pc y kind) (M : MT y p l none c s ini) (I : IA l as ls0) (h1 : (st.take p).reverse = as) (h2 : st.drop p = rest) (hok : eOK y kind as rest = true) : X (d + 1) μ pc ls st m = bV (X d y 0 ls0 [] m) fun m' => X (d + 1) μ (pc + 3) ls rest m' := by
  rw [x_call S M h1 h2 I.1, if_pos hok]
  cases h : X d y 0 ls0 [] m with
  | none => rfl
  | some q =>
    obtain ⟨o, m'⟩ := q
    cases o with
    | none => rfl
    | some v =>
      have hk := X_K h
      rw [M.2.2.1] at hk
      cases v with
      | none => rfl
      | some w => cases hk
theorem x_cg {y kind p l a : Nat} {r : Option FieldType} {c : Nat} {ini : Bool} {as : List Value} (S : CS μ pc y kind) (M : MT y p l r c false ini) (h1 : (st.take p).reverse = .ref a :: as) (hk : Nat.beq kind 2 = false) : X (d + 1) μ pc ls st m = gd a c (X (d + 1) μ pc ls st m) := by
  unfold gd
  by_cases h : kd a = c
  · rw [if_pos h]
  · rw [if_neg h, x_call S M h1 rfl rfl]
    refine if_neg fun z => h ?_
    have hk : ¬ kind = 2 := fun z => by rw [z] at hk; cases hk
    unfold eOK at z
    rw [M.2.2.2.1, if_neg hk] at z
    simp only [Bool.and_eq_true, decide_eq_true_eq] at z
    exact z.1.2.2
/-! returns -/
theorem x_iret {v : Int32} (hd : decode (mB μ) pc = .ok (.ireturn, 1)) (hr : mR μ = some .int) : X d μ pc ls [.int v] m = yI v m := by
  rw [X_stp]
  unfold stp
  rw [hd]
  simp only [if_pos (show lenOK .ireturn 1 = true from rfl), hr]
  have e : eFin (some .int) .ireturn [.int v] = some (some (.int v)) := if_pos ⟨rfl, fun z => by cases z⟩
  simp only [e]
  rfl
theorem x_bret {v : Int32} (hd : decode (mB μ) pc = .ok (.ireturn, 1)) (hr : mR μ = some .boolean) : X d μ pc ls [.int v] m = yB v m := by
  rw [X_stp]
  unfold stp
  rw [hd]
  simp only [if_pos (show lenOK .ireturn 1 = true from rfl), hr]
  unfold yB eFin
  by_cases h : narrow .boolean (.int v) = .int v
  · simp only [if_pos h, if_pos (show narrow .boolean (.int v) = .int v ∧ FieldType.boolean ≠ .long from ⟨h, fun z => by cases z⟩)]
  · simp only [if_neg h, if_neg (show ¬ (narrow .boolean (.int v) = .int v ∧ FieldType.boolean ≠ .long) from fun z => h z.1)]
    rfl
theorem x_lret {v : Int64} (hd : decode (mB μ) pc = .ok (.lreturn, 1)) (hr : mR μ = some .long) : X d μ pc ls [.long v] m = yL v m := by
  rw [X_stp]
  unfold stp
  rw [hd]
  simp only [if_pos (show lenOK .lreturn 1 = true from rfl), hr]
  rfl
theorem x_vret (hd : decode (mB μ) pc = .ok (.return_, 1)) (hr : mR μ = none) : X d μ pc ls [] m = yV m := by
  rw [X_stp]
  unfold stp
  rw [hd]
  simp only [if_pos (show lenOK .return_ 1 = true from rfl), hr]
  rfl
end XS
