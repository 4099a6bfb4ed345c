/-! ===== equations: java/lang/Integer, java/lang/Long, LiarsCock$Tape (printed by wip/whole/gen17.py) ===== -/
theorem D1_0 : decode (mB 1) 0 = .ok (.aload_n 0, 1) := by decide +kernel
theorem D1_1 : OB 1 1 := ⟨1, by decide +kernel, by decide +kernel, by decide +kernel⟩
theorem D1_4 : decode (mB 1) 4 = .ok (.aload_n 0, 1) := by decide +kernel
theorem D1_5 : decode (mB 1) 5 = .ok (.sipush 1000, 3) := by decide +kernel
theorem D1_8 : decode (mB 1) 8 = .ok (.newarray .char, 2) := by decide +kernel
theorem D1_10 : PF 1 10 8 0 2 := ⟨9, true, by decide +kernel, by decide +kernel, by decide +kernel, by decide⟩
theorem D1_13 : decode (mB 1) 13 = .ok (.return_, 1) := by decide +kernel
theorem Ta_init_e (d : Nat) (a0 : Nat) (m : eM) (h_a0 : kd a0 = 8) : Ta_init (d + 1) a0 m = nA m 22 (1000 : Int32) fun a1 m2 => mQ m2 a0 0 (some a1) fun m3 => yV m3 := by
  unfold Ta_init
  refine (x_aload1 D1_0 rfl).trans ?_
  refine (x_obj D1_1 rfl).trans ?_
  refine (x_aload1 D1_4 rfl).trans ?_
  refine (x_sipush D1_5 (k := 1000) (by decide)).trans ?_
  refine (x_newC D1_8).trans (nA_c fun a1 m2 => ?_)
  refine (x_putR D1_10 h_a0).trans ?_
  refine mQ_i (fun m3 => X (d + 1) 1 13 [.ref a0] [] m3) _ ?_
  intro m3
  exact x_vret D1_13 M1.2.2.1
theorem D11_0 : decode (mB 11) 0 = .ok (.bipush 56, 2) := by decide +kernel
theorem D11_2 : decode (mB 11) 2 = .ok (.istore_n 3, 1) := by decide +kernel
theorem D11_3 : decode (mB 11) 3 = .ok (.iload_n 3, 1) := by decide +kernel
theorem D11_4 : BR 11 4 (.ifCond .lt 93) (93) 97 := ⟨by decide +kernel, by decide, by decide⟩
theorem D11_97 : decode (mB 11) 97 = .ok (.return_, 1) := by decide +kernel
theorem D11_7 : decode (mB 11) 7 = .ok (.lload_n 1, 1) := by decide +kernel
theorem D11_8 : decode (mB 11) 8 = .ok (.iload_n 3, 1) := by decide +kernel
theorem D11_9 : decode (mB 11) 9 = .ok (.lushr, 1) := by decide +kernel
theorem R11_10 : lRes (mC 11) 17 = some (255) := by decide +kernel
theorem D11_10 : decode (mB 11) 10 = .ok (.ldc2_w 17, 3) := by decide +kernel
theorem D11_13 : decode (mB 11) 13 = .ok (.land, 1) := by decide +kernel
theorem D11_14 : decode (mB 11) 14 = .ok (.l2i, 1) := by decide +kernel
theorem D11_15 : decode (mB 11) 15 = .ok (.i2c, 1) := by decide +kernel
theorem D11_16 : decode (mB 11) 16 = .ok (.istore 4, 2) := by decide +kernel
theorem D11_18 : decode (mB 11) 18 = .ok (.iload 4, 2) := by decide +kernel
theorem D11_20 : decode (mB 11) 20 = .ok (.bipush 10, 2) := by decide +kernel
theorem D11_22 : BR 11 22 (.if_icmp .eq 17) (17) 39 := ⟨by decide +kernel, by decide, by decide⟩
theorem D11_39 : decode (mB 11) 39 = .ok (.iconst 1, 1) := by decide +kernel
theorem D11_40 : BR 11 40 (.goto 4) (4) 44 := ⟨by decide +kernel, by decide, by decide⟩
theorem D11_25 : decode (mB 11) 25 = .ok (.iload 4, 2) := by decide +kernel
theorem D11_27 : decode (mB 11) 27 = .ok (.bipush 32, 2) := by decide +kernel
theorem D11_29 : BR 11 29 (.if_icmp .lt 14) (14) 43 := ⟨by decide +kernel, by decide, by decide⟩
theorem D11_43 : decode (mB 11) 43 = .ok (.iconst 0, 1) := by decide +kernel
theorem D11_32 : decode (mB 11) 32 = .ok (.iload 4, 2) := by decide +kernel
theorem D11_34 : decode (mB 11) 34 = .ok (.bipush 126, 2) := by decide +kernel
theorem D11_36 : BR 11 36 (.if_icmp .gt 7) (7) 43 := ⟨by decide +kernel, by decide, by decide⟩
theorem D11_44 : decode (mB 11) 44 = .ok (.istore 5, 2) := by decide +kernel
theorem D11_46 : decode (mB 11) 46 = .ok (.iload 5, 2) := by decide +kernel
theorem D11_48 : BR 11 48 (.ifCond .eq 43) (43) 91 := ⟨by decide +kernel, by decide, by decide⟩
theorem D11_91 : decode (mB 11) 91 = .ok (.iinc 3 (-8), 3) := by decide +kernel
theorem D11_94 : BR 11 94 (.goto (-91)) (-91) 3 := ⟨by decide +kernel, by decide, by decide⟩
theorem D11_51 : decode (mB 11) 51 = .ok (.aload_n 0, 1) := by decide +kernel
theorem D11_52 : GF 11 52 8 1 0 := ⟨13, false, by decide +kernel, by decide +kernel⟩
theorem D11_55 : BR 11 55 (.ifCond .lt 36) (36) 91 := ⟨by decide +kernel, by decide, by decide⟩
theorem D11_58 : decode (mB 11) 58 = .ok (.aload_n 0, 1) := by decide +kernel
theorem D11_59 : GF 11 59 8 1 0 := ⟨13, false, by decide +kernel, by decide +kernel⟩
theorem D11_62 : decode (mB 11) 62 = .ok (.aload_n 0, 1) := by decide +kernel
theorem D11_63 : GF 11 63 8 0 2 := ⟨9, true, by decide +kernel, by decide +kernel⟩
theorem D11_66 : decode (mB 11) 66 = .ok (.arraylength, 1) := by decide +kernel
theorem D11_67 : BR 11 67 (.if_icmp .ge 24) (24) 91 := ⟨by decide +kernel, by decide, by decide⟩
theorem D11_70 : decode (mB 11) 70 = .ok (.aload_n 0, 1) := by decide +kernel
theorem D11_71 : GF 11 71 8 0 2 := ⟨9, true, by decide +kernel, by decide +kernel⟩
theorem D11_74 : decode (mB 11) 74 = .ok (.aload_n 0, 1) := by decide +kernel
theorem D11_75 : GF 11 75 8 1 0 := ⟨13, false, by decide +kernel, by decide +kernel⟩
theorem D11_78 : decode (mB 11) 78 = .ok (.iload 4, 2) := by decide +kernel
theorem D11_80 : decode (mB 11) 80 = .ok (.castore, 1) := by decide +kernel
theorem D11_81 : decode (mB 11) 81 = .ok (.aload_n 0, 1) := by decide +kernel
theorem D11_82 : decode (mB 11) 82 = .ok (.dup, 1) := by decide +kernel
theorem D11_83 : GF 11 83 8 1 0 := ⟨13, false, by decide +kernel, by decide +kernel⟩
theorem D11_86 : decode (mB 11) 86 = .ok (.iconst 1, 1) := by decide +kernel
theorem D11_87 : decode (mB 11) 87 = .ok (.iadd, 1) := by decide +kernel
theorem D11_88 : PF 11 88 8 1 0 := ⟨13, false, by decide +kernel, by decide +kernel, by decide +kernel, by decide⟩
theorem Ta_put_e (d : Nat) (a0 : Nat) (y1 : Int64) (m : eM) (h_a0 : kd a0 = 8) : Ta_put d a0 y1 m = Ta_put_3 d a0 y1 (56 : Int32) eU eU m := by
  unfold Ta_put
  refine (x_bipush D11_0 (k := 56) (by decide)).trans ?_
  refine (x_istore1 D11_2 (ls' := [.ref a0, .long y1, eU, .int (56 : Int32), eU, eU]) rfl rfl).trans ?_
  rfl
theorem Ta_put_3_e (d : Nat) (a0 : Nat) (y1 : Int64) (x3 : Int32) (w4 : Value) (w5 : Value) (m : eM) (h_a0 : kd a0 = 8) : Ta_put_3 d a0 y1 x3 w4 w5 m = if x3 < 0 then (yV m) else (lI ((((((y1.toUInt64 >>> (x3.toInt64.toUInt64 &&& Int64.toUInt64 63)).toInt64) &&& (255 : Int64)).toInt32).toUInt32 % 65536).toInt32) fun v1 => if v1 = (10 : Int32) then (Ta_put_44 d a0 y1 x3 v1 w5 (1 : Int32) m) else (if v1 < (32 : Int32) then (Ta_put_44 d a0 y1 x3 v1 w5 (0 : Int32) m) else (if (126 : Int32) < v1 then (Ta_put_44 d a0 y1 x3 v1 w5 (0 : Int32) m) else (Ta_put_44 d a0 y1 x3 v1 w5 (1 : Int32) m)))) := by
  unfold Ta_put_3
  refine (x_iload1 D11_3 rfl).trans ?_
  refine (x_iflt D11_4).trans (i_c ?_ ?_)
  · exact x_vret D11_97 M11.2.2.1
  · refine (x_lload1 D11_7 rfl).trans ?_
    refine (x_iload1 D11_8 rfl).trans ?_
    refine (x_lushr D11_9).trans ?_
    refine (x_ldc2 D11_10 R11_10).trans ?_
    refine (x_land D11_13).trans ?_
    refine (x_l2i D11_14).trans ?_
    refine (x_i2c D11_15).trans ?_
    refine (x_istore2 D11_16 (ls' := [.ref a0, .long y1, eU, .int x3, .int ((((((y1.toUInt64 >>> (x3.toInt64.toUInt64 &&& Int64.toUInt64 63)).toInt64) &&& (255 : Int64)).toInt32).toUInt32 % 65536).toInt32), w5]) rfl rfl).trans ?_
    refine lI_i (fun v1 => X d 11 18 [.ref a0, .long y1, eU, .int x3, .int v1, w5] [] m) _ ?_ _
    intro v1
    refine (x_iload2 D11_18 rfl).trans ?_
    refine (x_bipush D11_20 (k := 10) (by decide)).trans ?_
    refine (x_ceq D11_22).trans (i_c ?_ ?_)
    · refine (x_iconst D11_39 (k := 1) (by decide)).trans ?_
      refine (x_goto D11_40).trans ?_
      rfl
    · refine (x_iload2 D11_25 rfl).trans ?_
      refine (x_bipush D11_27 (k := 32) (by decide)).trans ?_
      refine (x_clt D11_29).trans (i_c ?_ ?_)
      · refine (x_iconst D11_43 (k := 0) (by decide)).trans ?_
        rfl
      · refine (x_iload2 D11_32 rfl).trans ?_
        refine (x_bipush D11_34 (k := 126) (by decide)).trans ?_
        refine (x_cgt D11_36).trans (i_c ?_ ?_)
        · refine (x_iconst D11_43 (k := 0) (by decide)).trans ?_
          rfl
        · refine (x_iconst D11_39 (k := 1) (by decide)).trans ?_
          refine (x_goto D11_40).trans ?_
          rfl
theorem Ta_put_44_e (d : Nat) (a0 : Nat) (y1 : Int64) (x3 : Int32) (x4 : Int32) (w5 : Value) (p0 : Int32) (m : eM) (h_a0 : kd a0 = 8) : Ta_put_44 d a0 y1 x3 x4 w5 p0 m = if p0 = 0 then (Ta_put_3 d a0 y1 (x3 + (-8 : Int32)) (.int x4) (.int p0) m) else (if (gI m a0 1) < 0 then (Ta_put_3 d a0 y1 (x3 + (-8 : Int32)) (.int x4) (.int p0) m) else (bR (gR m a0 0) fun r1 => gl r1 (if ((aln m r1).toInt32) ≤ (gI m a0 1) then (Ta_put_3 d a0 y1 (x3 + (-8 : Int32)) (.int x4) (.int p0) m) else (bR (gR m a0 0) fun r2 => gw m r2 22 (gI m a0 1) (mI m r2 (gI m a0 1).toNatClampNeg x4.toUInt32.toUInt16.toUInt32.toInt32 fun m3 => mI m3 a0 1 ((gI m3 a0 1) + (1 : Int32)) fun m4 => Ta_put_3 d a0 y1 (x3 + (-8 : Int32)) (.int x4) (.int p0) m4))))) := by
  unfold Ta_put_44
  refine (x_istore2 D11_44 (ls' := [.ref a0, .long y1, eU, .int x3, .int x4, .int p0]) rfl rfl).trans ?_
  refine (x_iload2 D11_46 rfl).trans ?_
  refine (x_ifeq D11_48).trans (i_c ?_ ?_)
  · refine (x_iinc D11_91 rfl (k := -8) (by decide) (ls' := [.ref a0, .long y1, eU, .int (x3 + (-8 : Int32)), .int x4, .int p0]) rfl).trans ?_
    refine (x_goto D11_94).trans ?_
    rfl
  · refine (x_aload1 D11_51 rfl).trans ?_
    refine ((x_getI D11_52).trans (gd_t h_a0)).trans ?_
    refine (x_iflt D11_55).trans (i_c ?_ ?_)
    · refine (x_iinc D11_91 rfl (k := -8) (by decide) (ls' := [.ref a0, .long y1, eU, .int (x3 + (-8 : Int32)), .int x4, .int p0]) rfl).trans ?_
      refine (x_goto D11_94).trans ?_
      rfl
    · refine (x_aload1 D11_58 rfl).trans ?_
      refine ((x_getI D11_59).trans (gd_t h_a0)).trans ?_
      refine (x_aload1 D11_62 rfl).trans ?_
      refine ((x_getR D11_63).trans (gd_t h_a0)).trans (bR_c fun r1 => ?_)
      refine (x_alen D11_66).trans (gl_c ?_)
      refine (x_cge D11_67).trans (i_c ?_ ?_)
      · refine (x_iinc D11_91 rfl (k := -8) (by decide) (ls' := [.ref a0, .long y1, eU, .int (x3 + (-8 : Int32)), .int x4, .int p0]) rfl).trans ?_
        refine (x_goto D11_94).trans ?_
        rfl
      · refine (x_aload1 D11_70 rfl).trans ?_
        refine ((x_getR D11_71).trans (gd_t h_a0)).trans (bR_c fun r2 => ?_)
        refine (x_aload1 D11_74 rfl).trans ?_
        refine ((x_getI D11_75).trans (gd_t h_a0)).trans ?_
        refine (x_iload2 D11_78 rfl).trans ?_
        refine (x_castore D11_80).trans (gw_c ?_)
        refine mI_i (fun m3 => X d 11 81 [.ref a0, .long y1, eU, .int x3, .int x4, .int p0] [] m3) _ ?_
        intro m3
        refine (x_aload1 D11_81 rfl).trans ?_
        refine (x_dup1 D11_82 rfl).trans ?_
        refine ((x_getI D11_83).trans (gd_t h_a0)).trans ?_
        refine (x_iconst D11_86 (k := 1) (by decide)).trans ?_
        refine (x_iadd D11_87).trans ?_
        refine (x_putI D11_88 h_a0).trans ?_
        refine mI_i (fun m4 => X d 11 91 [.ref a0, .long y1, eU, .int x3, .int x4, .int p0] [] m4) _ ?_
        intro m4
        refine (x_iinc D11_91 rfl (k := -8) (by decide) (ls' := [.ref a0, .long y1, eU, .int (x3 + (-8 : Int32)), .int x4, .int p0]) rfl).trans ?_
        refine (x_goto D11_94).trans ?_
        rfl
theorem D12_0 : decode (mB 12) 0 = .ok (.aload_n 0, 1) := by decide +kernel
theorem D12_1 : GF 12 1 8 1 0 := ⟨13, false, by decide +kernel, by decide +kernel⟩
theorem D12_4 : decode (mB 12) 4 = .ok (.ireturn, 1) := by decide +kernel
theorem Ta_length_e (d : Nat) (a0 : Nat) (m : eM) (h_a0 : kd a0 = 8) : Ta_length d a0 m = yI (gI m a0 1) m := by
  unfold Ta_length
  refine (x_aload1 D12_0 rfl).trans ?_
  refine ((x_getI D12_1).trans (gd_t h_a0)).trans ?_
  exact x_iret D12_4 M12.2.2.1
theorem D14_0 : decode (mB 14) 0 = .ok (.aload_n 0, 1) := by decide +kernel
theorem D14_1 : decode (mB 14) 1 = .ok (.iconst 0, 1) := by decide +kernel
theorem D14_2 : PF 14 2 8 2 0 := ⟨19, false, by decide +kernel, by decide +kernel, by decide +kernel, by decide⟩
theorem D14_5 : decode (mB 14) 5 = .ok (.aload_n 0, 1) := by decide +kernel
theorem D14_6 : decode (mB 14) 6 = .ok (.iconst 0, 1) := by decide +kernel
theorem D14_7 : PF 14 7 8 8 0 := ⟨22, false, by decide +kernel, by decide +kernel, by decide +kernel, by decide⟩
theorem D14_10 : decode (mB 14) 10 = .ok (.aload_n 0, 1) := by decide +kernel
theorem D14_11 : CS 14 11 15 0 := ⟨.invokevirtual 25, by decide +kernel, by decide +kernel, by decide +kernel, by decide⟩
theorem D14_14 : decode (mB 14) 14 = .ok (.return_, 1) := by decide +kernel
theorem Ta_open_e (d : Nat) (a0 : Nat) (m : eM) (h_a0 : kd a0 = 8) : Ta_open (d + 1) a0 m = mI m a0 2 (0 : Int32) fun m1 => mI m1 a0 8 (0 : Int32) fun m2 => bV (Ta_step d a0 m2) fun m3 => yV m3 := by
  unfold Ta_open
  refine (x_aload1 D14_0 rfl).trans ?_
  refine (x_iconst D14_1 (k := 0) (by decide)).trans ?_
  refine (x_putI D14_2 h_a0).trans ?_
  refine mI_i (fun m1 => X (d + 1) 14 5 [.ref a0] [] m1) _ ?_
  intro m1
  refine (x_aload1 D14_5 rfl).trans ?_
  refine (x_iconst D14_6 (k := 0) (by decide)).trans ?_
  refine (x_putI D14_7 h_a0).trans ?_
  refine mI_i (fun m2 => X (d + 1) 14 10 [.ref a0] [] m2) _ ?_
  intro m2
  refine (x_aload1 D14_10 rfl).trans ?_
  refine (x_cV D14_11 M15  (I15 _) rfl rfl (ok_i M15 (I15 _) rfl rfl h_a0)).trans (bV_c fun m3 => ?_)
  exact x_vret D14_14 M14.2.2.1
theorem D15_0 : decode (mB 15) 0 = .ok (.aload_n 0, 1) := by decide +kernel
theorem D15_1 : decode (mB 15) 1 = .ok (.aload_n 0, 1) := by decide +kernel
theorem D15_2 : decode (mB 15) 2 = .ok (.aload_n 0, 1) := by decide +kernel
theorem D15_3 : GF 15 3 8 2 0 := ⟨19, false, by decide +kernel, by decide +kernel⟩
theorem D15_6 : CS 15 6 16 0 := ⟨.invokevirtual 28, by decide +kernel, by decide +kernel, by decide +kernel, by decide⟩
theorem D15_9 : PF 15 9 8 4 0 := ⟨32, false, by decide +kernel, by decide +kernel, by decide +kernel, by decide⟩
theorem D15_12 : decode (mB 15) 12 = .ok (.aload_n 0, 1) := by decide +kernel
theorem D15_13 : decode (mB 15) 13 = .ok (.aload_n 0, 1) := by decide +kernel
theorem D15_14 : GF 15 14 8 4 0 := ⟨32, false, by decide +kernel, by decide +kernel⟩
theorem D15_17 : BR 15 17 (.ifCond .lt 38) (38) 55 := ⟨by decide +kernel, by decide, by decide⟩
theorem D15_55 : decode (mB 15) 55 = .ok (.bipush 32, 2) := by decide +kernel
theorem D15_20 : decode (mB 15) 20 = .ok (.aload_n 0, 1) := by decide +kernel
theorem D15_21 : GF 15 21 8 4 0 := ⟨32, false, by decide +kernel, by decide +kernel⟩
theorem D15_24 : decode (mB 15) 24 = .ok (.aload_n 0, 1) := by decide +kernel
theorem D15_25 : GF 15 25 8 1 0 := ⟨13, false, by decide +kernel, by decide +kernel⟩
theorem D15_28 : BR 15 28 (.if_icmp .ge 27) (27) 55 := ⟨by decide +kernel, by decide, by decide⟩
theorem D15_31 : decode (mB 15) 31 = .ok (.aload_n 0, 1) := by decide +kernel
theorem D15_32 : GF 15 32 8 4 0 := ⟨32, false, by decide +kernel, by decide +kernel⟩
theorem D15_35 : decode (mB 15) 35 = .ok (.aload_n 0, 1) := by decide +kernel
theorem D15_36 : GF 15 36 8 0 2 := ⟨9, true, by decide +kernel, by decide +kernel⟩
theorem D15_39 : decode (mB 15) 39 = .ok (.arraylength, 1) := by decide +kernel
theorem D15_40 : BR 15 40 (.if_icmp .ge 15) (15) 55 := ⟨by decide +kernel, by decide, by decide⟩
theorem D15_43 : decode (mB 15) 43 = .ok (.aload_n 0, 1) := by decide +kernel
theorem D15_44 : GF 15 44 8 0 2 := ⟨9, true, by decide +kernel, by decide +kernel⟩
theorem D15_47 : decode (mB 15) 47 = .ok (.aload_n 0, 1) := by decide +kernel
theorem D15_48 : GF 15 48 8 4 0 := ⟨32, false, by decide +kernel, by decide +kernel⟩
theorem D15_51 : decode (mB 15) 51 = .ok (.caload, 1) := by decide +kernel
theorem D15_52 : BR 15 52 (.goto 5) (5) 57 := ⟨by decide +kernel, by decide, by decide⟩
theorem D15_57 : PF 15 57 8 5 4 := ⟨35, false, by decide +kernel, by decide +kernel, by decide +kernel, by decide⟩
theorem D15_60 : decode (mB 15) 60 = .ok (.aload_n 0, 1) := by decide +kernel
theorem D15_61 : decode (mB 15) 61 = .ok (.bipush 97, 2) := by decide +kernel
theorem D15_63 : decode (mB 15) 63 = .ok (.bipush 122, 2) := by decide +kernel
theorem D15_65 : CS 15 65 17 0 := ⟨.invokevirtual 39, by decide +kernel, by decide +kernel, by decide +kernel, by decide⟩
theorem D15_68 : decode (mB 15) 68 = .ok (.istore_n 1, 1) := by decide +kernel
theorem D15_69 : decode (mB 15) 69 = .ok (.aload_n 0, 1) := by decide +kernel
theorem D15_70 : decode (mB 15) 70 = .ok (.bipush 48, 2) := by decide +kernel
theorem D15_72 : decode (mB 15) 72 = .ok (.bipush 57, 2) := by decide +kernel
theorem D15_74 : CS 15 74 17 0 := ⟨.invokevirtual 39, by decide +kernel, by decide +kernel, by decide +kernel, by decide⟩
theorem D15_77 : decode (mB 15) 77 = .ok (.istore_n 2, 1) := by decide +kernel
theorem D15_78 : decode (mB 15) 78 = .ok (.aload_n 0, 1) := by decide +kernel
theorem D15_79 : GF 15 79 8 4 0 := ⟨32, false, by decide +kernel, by decide +kernel⟩
theorem D15_82 : decode (mB 15) 82 = .ok (.aload_n 0, 1) := by decide +kernel
theorem D15_83 : GF 15 83 8 1 0 := ⟨13, false, by decide +kernel, by decide +kernel⟩
theorem D15_86 : BR 15 86 (.if_icmp .lt 19) (19) 105 := ⟨by decide +kernel, by decide, by decide⟩
theorem D15_105 : decode (mB 15) 105 = .ok (.iload_n 1, 1) := by decide +kernel
theorem D15_106 : decode (mB 15) 106 = .ok (.aload_n 0, 1) := by decide +kernel
theorem D15_107 : GF 15 107 8 4 0 := ⟨32, false, by decide +kernel, by decide +kernel⟩
theorem D15_110 : BR 15 110 (.if_icmp .le 11) (11) 121 := ⟨by decide +kernel, by decide, by decide⟩
theorem D15_121 : decode (mB 15) 121 = .ok (.iload_n 2, 1) := by decide +kernel
theorem D15_122 : decode (mB 15) 122 = .ok (.aload_n 0, 1) := by decide +kernel
theorem D15_123 : GF 15 123 8 4 0 := ⟨32, false, by decide +kernel, by decide +kernel⟩
theorem D15_126 : BR 15 126 (.if_icmp .le 11) (11) 137 := ⟨by decide +kernel, by decide, by decide⟩
theorem D15_137 : decode (mB 15) 137 = .ok (.aload_n 0, 1) := by decide +kernel
theorem D15_138 : decode (mB 15) 138 = .ok (.iconst 4, 1) := by decide +kernel
theorem D15_139 : PF 15 139 8 3 0 := ⟨43, false, by decide +kernel, by decide +kernel, by decide +kernel, by decide⟩
theorem D15_142 : decode (mB 15) 142 = .ok (.aload_n 0, 1) := by decide +kernel
theorem D15_143 : decode (mB 15) 143 = .ok (.aload_n 0, 1) := by decide +kernel
theorem D15_144 : GF 15 144 8 4 0 := ⟨32, false, by decide +kernel, by decide +kernel⟩
theorem D15_147 : decode (mB 15) 147 = .ok (.iconst 1, 1) := by decide +kernel
theorem D15_148 : decode (mB 15) 148 = .ok (.iadd, 1) := by decide +kernel
theorem D15_149 : PF 15 149 8 2 0 := ⟨19, false, by decide +kernel, by decide +kernel, by decide +kernel, by decide⟩
theorem D15_152 : decode (mB 15) 152 = .ok (.return_, 1) := by decide +kernel
theorem D15_129 : decode (mB 15) 129 = .ok (.aload_n 0, 1) := by decide +kernel
theorem D15_130 : decode (mB 15) 130 = .ok (.iload_n 2, 1) := by decide +kernel
theorem D15_131 : CS 15 131 19 0 := ⟨.invokevirtual 50, by decide +kernel, by decide +kernel, by decide +kernel, by decide⟩
theorem D15_134 : BR 15 134 (.goto 18) (18) 152 := ⟨by decide +kernel, by decide, by decide⟩
theorem D15_113 : decode (mB 15) 113 = .ok (.aload_n 0, 1) := by decide +kernel
theorem D15_114 : decode (mB 15) 114 = .ok (.iload_n 1, 1) := by decide +kernel
theorem D15_115 : CS 15 115 18 0 := ⟨.invokevirtual 46, by decide +kernel, by decide +kernel, by decide +kernel, by decide⟩
theorem D15_118 : BR 15 118 (.goto 34) (34) 152 := ⟨by decide +kernel, by decide, by decide⟩
theorem D15_89 : decode (mB 15) 89 = .ok (.aload_n 0, 1) := by decide +kernel
theorem D15_90 : decode (mB 15) 90 = .ok (.iconst 0, 1) := by decide +kernel
theorem D15_91 : PF 15 91 8 3 0 := ⟨43, false, by decide +kernel, by decide +kernel, by decide +kernel, by decide⟩
theorem D15_94 : decode (mB 15) 94 = .ok (.aload_n 0, 1) := by decide +kernel
theorem D15_95 : decode (mB 15) 95 = .ok (.aload_n 0, 1) := by decide +kernel
theorem D15_96 : GF 15 96 8 4 0 := ⟨32, false, by decide +kernel, by decide +kernel⟩
theorem D15_99 : PF 15 99 8 2 0 := ⟨19, false, by decide +kernel, by decide +kernel, by decide +kernel, by decide⟩
theorem D15_102 : BR 15 102 (.goto 50) (50) 152 := ⟨by decide +kernel, by decide, by decide⟩
theorem Ta_step_e (d : Nat) (a0 : Nat) (m : eM) (h_a0 : kd a0 = 8) : Ta_step (d + 1) a0 m = bI (Ta_behindBlanks d a0 (gI m a0 2) m) fun v2 m1 => mI m1 a0 4 v2 fun m3 => if (gI m3 a0 4) < 0 then (Ta_step_57 (d + 1) a0 a0 (32 : Int32) m3) else (if (gI m3 a0 1) ≤ (gI m3 a0 4) then (Ta_step_57 (d + 1) a0 a0 (32 : Int32) m3) else (bR (gR m3 a0 0) fun r4 => gl r4 (if ((aln m3 r4).toInt32) ≤ (gI m3 a0 4) then (Ta_step_57 (d + 1) a0 a0 (32 : Int32) m3) else (bR (gR m3 a0 0) fun r5 => ga m3 r5 22 (gI m3 a0 4) (Ta_step_57 (d + 1) a0 a0 (gI m3 r5 (gI m3 a0 4).toNatClampNeg) m3))))) := by
  unfold Ta_step
  refine (x_aload1 D15_0 rfl).trans ?_
  refine (x_aload1 D15_1 rfl).trans ?_
  refine (x_aload1 D15_2 rfl).trans ?_
  refine ((x_getI D15_3).trans (gd_t h_a0)).trans ?_
  refine (x_cI D15_6 M16 (fun z => by cases z) (I16 _ _) rfl rfl (ok_i M16 (I16 _ _) rfl rfl h_a0)).trans (bI_c fun v2 m1 => ?_)
  refine (x_putI D15_9 h_a0).trans ?_
  refine mI_i (fun m3 => X (d + 1) 15 12 [.ref a0, eU, eU] [] m3) _ ?_
  intro m3
  refine (x_aload1 D15_12 rfl).trans ?_
  refine (x_aload1 D15_13 rfl).trans ?_
  refine ((x_getI D15_14).trans (gd_t h_a0)).trans ?_
  refine (x_iflt D15_17).trans (i_c ?_ ?_)
  · refine (x_bipush D15_55 (k := 32) (by decide)).trans ?_
    rfl
  · refine (x_aload1 D15_20 rfl).trans ?_
    refine ((x_getI D15_21).trans (gd_t h_a0)).trans ?_
    refine (x_aload1 D15_24 rfl).trans ?_
    refine ((x_getI D15_25).trans (gd_t h_a0)).trans ?_
    refine (x_cge D15_28).trans (i_c ?_ ?_)
    · refine (x_bipush D15_55 (k := 32) (by decide)).trans ?_
      rfl
    · refine (x_aload1 D15_31 rfl).trans ?_
      refine ((x_getI D15_32).trans (gd_t h_a0)).trans ?_
      refine (x_aload1 D15_35 rfl).trans ?_
      refine ((x_getR D15_36).trans (gd_t h_a0)).trans (bR_c fun r4 => ?_)
      refine (x_alen D15_39).trans (gl_c ?_)
      refine (x_cge D15_40).trans (i_c ?_ ?_)
      · refine (x_bipush D15_55 (k := 32) (by decide)).trans ?_
        rfl
      · refine (x_aload1 D15_43 rfl).trans ?_
        refine ((x_getR D15_44).trans (gd_t h_a0)).trans (bR_c fun r5 => ?_)
        refine (x_aload1 D15_47 rfl).trans ?_
        refine ((x_getI D15_48).trans (gd_t h_a0)).trans ?_
        refine (x_caload D15_51).trans (ga_c ?_)
        refine (x_goto D15_52).trans ?_
        rfl
theorem Ta_step_57_e (d : Nat) (a0 : Nat) (b0 : Nat) (p1 : Int32) (m : eM) (h_a0 : kd a0 = 8) (h_b0 : kd b0 = 8) : Ta_step_57 (d + 1) a0 b0 p1 m = pC p1 (mI m b0 5 p1 fun m1 => bI (Ta_runEnd d a0 (97 : Int32) (122 : Int32) m1) fun v3 m2 => bI (Ta_runEnd d a0 (48 : Int32) (57 : Int32) m2) fun v5 m4 => if (gI m4 a0 4) < (gI m4 a0 1) then (if v3 ≤ (gI m4 a0 4) then (if v5 ≤ (gI m4 a0 4) then (mI m4 a0 3 (4 : Int32) fun m6 => mI m6 a0 2 ((gI m6 a0 4) + (1 : Int32)) fun m7 => yV m7) else (bV (Ta_readNumber d a0 v5 m4) fun m8 => yV m8)) else (bV (Ta_readWord d a0 v3 m4) fun m9 => yV m9)) else (mI m4 a0 3 (0 : Int32) fun m10 => mI m10 a0 2 (gI m10 a0 4) fun m11 => yV m11)) := by
  unfold Ta_step_57
  refine (x_putC D15_57 h_b0).trans (pC_c ?_)
  refine mI_i (fun m1 => X (d + 1) 15 60 [.ref a0, eU, eU] [] m1) _ ?_
  intro m1
  refine (x_aload1 D15_60 rfl).trans ?_
  refine (x_bipush D15_61 (k := 97) (by decide)).trans ?_
  refine (x_bipush D15_63 (k := 122) (by decide)).trans ?_
  refine (x_cI D15_65 M17 (fun z => by cases z) (I17 _ _ _) rfl rfl (ok_i M17 (I17 _ _ _) rfl rfl h_a0)).trans (bI_c fun v3 m2 => ?_)
  refine (x_istore1 D15_68 (ls' := [.ref a0, .int v3, eU]) rfl rfl).trans ?_
  refine (x_aload1 D15_69 rfl).trans ?_
  refine (x_bipush D15_70 (k := 48) (by decide)).trans ?_
  refine (x_bipush D15_72 (k := 57) (by decide)).trans ?_
  refine (x_cI D15_74 M17 (fun z => by cases z) (I17 _ _ _) rfl rfl (ok_i M17 (I17 _ _ _) rfl rfl h_a0)).trans (bI_c fun v5 m4 => ?_)
  refine (x_istore1 D15_77 (ls' := [.ref a0, .int v3, .int v5]) rfl rfl).trans ?_
  refine (x_aload1 D15_78 rfl).trans ?_
  refine ((x_getI D15_79).trans (gd_t h_a0)).trans ?_
  refine (x_aload1 D15_82 rfl).trans ?_
  refine ((x_getI D15_83).trans (gd_t h_a0)).trans ?_
  refine (x_clt D15_86).trans (i_c ?_ ?_)
  · refine (x_iload1 D15_105 rfl).trans ?_
    refine (x_aload1 D15_106 rfl).trans ?_
    refine ((x_getI D15_107).trans (gd_t h_a0)).trans ?_
    refine (x_cle D15_110).trans (i_c ?_ ?_)
    · refine (x_iload1 D15_121 rfl).trans ?_
      refine (x_aload1 D15_122 rfl).trans ?_
      refine ((x_getI D15_123).trans (gd_t h_a0)).trans ?_
      refine (x_cle D15_126).trans (i_c ?_ ?_)
      · refine (x_aload1 D15_137 rfl).trans ?_
        refine (x_iconst D15_138 (k := 4) (by decide)).trans ?_
        refine (x_putI D15_139 h_a0).trans ?_
        refine mI_i (fun m6 => X (d + 1) 15 142 [.ref a0, .int v3, .int v5] [] m6) _ ?_
        intro m6
        refine (x_aload1 D15_142 rfl).trans ?_
        refine (x_aload1 D15_143 rfl).trans ?_
        refine ((x_getI D15_144).trans (gd_t h_a0)).trans ?_
        refine (x_iconst D15_147 (k := 1) (by decide)).trans ?_
        refine (x_iadd D15_148).trans ?_
        refine (x_putI D15_149 h_a0).trans ?_
        refine mI_i (fun m7 => X (d + 1) 15 152 [.ref a0, .int v3, .int v5] [] m7) _ ?_
        intro m7
        exact x_vret D15_152 M15.2.2.1
      · refine (x_aload1 D15_129 rfl).trans ?_
        refine (x_iload1 D15_130 rfl).trans ?_
        refine (x_cV D15_131 M19  (I19 _ _) rfl rfl (ok_i M19 (I19 _ _) rfl rfl h_a0)).trans (bV_c fun m8 => ?_)
        refine (x_goto D15_134).trans ?_
        exact x_vret D15_152 M15.2.2.1
    · refine (x_aload1 D15_113 rfl).trans ?_
      refine (x_iload1 D15_114 rfl).trans ?_
      refine (x_cV D15_115 M18  (I18 _ _) rfl rfl (ok_i M18 (I18 _ _) rfl rfl h_a0)).trans (bV_c fun m9 => ?_)
      refine (x_goto D15_118).trans ?_
      exact x_vret D15_152 M15.2.2.1
  · refine (x_aload1 D15_89 rfl).trans ?_
    refine (x_iconst D15_90 (k := 0) (by decide)).trans ?_
    refine (x_putI D15_91 h_a0).trans ?_
    refine mI_i (fun m10 => X (d + 1) 15 94 [.ref a0, .int v3, .int v5] [] m10) _ ?_
    intro m10
    refine (x_aload1 D15_94 rfl).trans ?_
    refine (x_aload1 D15_95 rfl).trans ?_
    refine ((x_getI D15_96).trans (gd_t h_a0)).trans ?_
    refine (x_putI D15_99 h_a0).trans ?_
    refine mI_i (fun m11 => X (d + 1) 15 102 [.ref a0, .int v3, .int v5] [] m11) _ ?_
    intro m11
    refine (x_goto D15_102).trans ?_
    exact x_vret D15_152 M15.2.2.1
theorem D16_0 : decode (mB 16) 0 = .ok (.iload_n 1, 1) := by decide +kernel
theorem D16_1 : decode (mB 16) 1 = .ok (.istore_n 2, 1) := by decide +kernel
theorem D16_2 : decode (mB 16) 2 = .ok (.iload_n 2, 1) := by decide +kernel
theorem D16_3 : BR 16 3 (.ifCond .lt 48) (48) 51 := ⟨by decide +kernel, by decide, by decide⟩
theorem D16_51 : decode (mB 16) 51 = .ok (.iload_n 2, 1) := by decide +kernel
theorem D16_52 : decode (mB 16) 52 = .ok (.ireturn, 1) := by decide +kernel
theorem D16_6 : decode (mB 16) 6 = .ok (.iload_n 2, 1) := by decide +kernel
theorem D16_7 : decode (mB 16) 7 = .ok (.aload_n 0, 1) := by decide +kernel
theorem D16_8 : GF 16 8 8 1 0 := ⟨13, false, by decide +kernel, by decide +kernel⟩
theorem D16_11 : BR 16 11 (.if_icmp .ge 40) (40) 51 := ⟨by decide +kernel, by decide, by decide⟩
theorem D16_14 : decode (mB 16) 14 = .ok (.iload_n 2, 1) := by decide +kernel
theorem D16_15 : decode (mB 16) 15 = .ok (.aload_n 0, 1) := by decide +kernel
theorem D16_16 : GF 16 16 8 0 2 := ⟨9, true, by decide +kernel, by decide +kernel⟩
theorem D16_19 : decode (mB 16) 19 = .ok (.arraylength, 1) := by decide +kernel
theorem D16_20 : BR 16 20 (.if_icmp .ge 31) (31) 51 := ⟨by decide +kernel, by decide, by decide⟩
theorem D16_23 : decode (mB 16) 23 = .ok (.aload_n 0, 1) := by decide +kernel
theorem D16_24 : GF 16 24 8 0 2 := ⟨9, true, by decide +kernel, by decide +kernel⟩
theorem D16_27 : decode (mB 16) 27 = .ok (.iload_n 2, 1) := by decide +kernel
theorem D16_28 : decode (mB 16) 28 = .ok (.caload, 1) := by decide +kernel
theorem D16_29 : decode (mB 16) 29 = .ok (.bipush 10, 2) := by decide +kernel
theorem D16_31 : BR 16 31 (.if_icmp .eq 14) (14) 45 := ⟨by decide +kernel, by decide, by decide⟩
theorem D16_45 : decode (mB 16) 45 = .ok (.iinc 2 1, 3) := by decide +kernel
theorem D16_48 : BR 16 48 (.goto (-46)) (-46) 2 := ⟨by decide +kernel, by decide, by decide⟩
theorem D16_34 : decode (mB 16) 34 = .ok (.aload_n 0, 1) := by decide +kernel
theorem D16_35 : GF 16 35 8 0 2 := ⟨9, true, by decide +kernel, by decide +kernel⟩
theorem D16_38 : decode (mB 16) 38 = .ok (.iload_n 2, 1) := by decide +kernel
theorem D16_39 : decode (mB 16) 39 = .ok (.caload, 1) := by decide +kernel
theorem D16_40 : decode (mB 16) 40 = .ok (.bipush 32, 2) := by decide +kernel
theorem D16_42 : BR 16 42 (.if_icmp .ne 9) (9) 51 := ⟨by decide +kernel, by decide, by decide⟩
theorem Ta_behindBlanks_e (d : Nat) (a0 : Nat) (x1 : Int32) (m : eM) (h_a0 : kd a0 = 8) : Ta_behindBlanks d a0 x1 m = Ta_behindBlanks_2 d a0 x1 x1 m := by
  unfold Ta_behindBlanks
  refine (x_iload1 D16_0 rfl).trans ?_
  refine (x_istore1 D16_1 (ls' := [.ref a0, .int x1, .int x1]) rfl rfl).trans ?_
  rfl
theorem Ta_behindBlanks_2_e (d : Nat) (a0 : Nat) (x1 : Int32) (x2 : Int32) (m : eM) (h_a0 : kd a0 = 8) : Ta_behindBlanks_2 d a0 x1 x2 m = if x2 < 0 then (yI x2 m) else (if (gI m a0 1) ≤ x2 then (yI x2 m) else (bR (gR m a0 0) fun r1 => gl r1 (if ((aln m r1).toInt32) ≤ x2 then (yI x2 m) else (bR (gR m a0 0) fun r2 => ga m r2 22 x2 (if (gI m r2 x2.toNatClampNeg) = (10 : Int32) then (Ta_behindBlanks_2 d a0 x1 (x2 + (1 : Int32)) m) else (bR (gR m a0 0) fun r3 => ga m r3 22 x2 (if ¬ (gI m r3 x2.toNatClampNeg) = (32 : Int32) then (yI x2 m) else (Ta_behindBlanks_2 d a0 x1 (x2 + (1 : Int32)) m)))))))) := by
  unfold Ta_behindBlanks_2
  refine (x_iload1 D16_2 rfl).trans ?_
  refine (x_iflt D16_3).trans (i_c ?_ ?_)
  · refine (x_iload1 D16_51 rfl).trans ?_
    exact x_iret D16_52 M16.2.2.1
  · refine (x_iload1 D16_6 rfl).trans ?_
    refine (x_aload1 D16_7 rfl).trans ?_
    refine ((x_getI D16_8).trans (gd_t h_a0)).trans ?_
    refine (x_cge D16_11).trans (i_c ?_ ?_)
    · refine (x_iload1 D16_51 rfl).trans ?_
      exact x_iret D16_52 M16.2.2.1
    · refine (x_iload1 D16_14 rfl).trans ?_
      refine (x_aload1 D16_15 rfl).trans ?_
      refine ((x_getR D16_16).trans (gd_t h_a0)).trans (bR_c fun r1 => ?_)
      refine (x_alen D16_19).trans (gl_c ?_)
      refine (x_cge D16_20).trans (i_c ?_ ?_)
      · refine (x_iload1 D16_51 rfl).trans ?_
        exact x_iret D16_52 M16.2.2.1
      · refine (x_aload1 D16_23 rfl).trans ?_
        refine ((x_getR D16_24).trans (gd_t h_a0)).trans (bR_c fun r2 => ?_)
        refine (x_iload1 D16_27 rfl).trans ?_
        refine (x_caload D16_28).trans (ga_c ?_)
        refine (x_bipush D16_29 (k := 10) (by decide)).trans ?_
        refine (x_ceq D16_31).trans (i_c ?_ ?_)
        · refine (x_iinc D16_45 rfl (k := 1) (by decide) (ls' := [.ref a0, .int x1, .int (x2 + (1 : Int32))]) rfl).trans ?_
          refine (x_goto D16_48).trans ?_
          rfl
        · refine (x_aload1 D16_34 rfl).trans ?_
          refine ((x_getR D16_35).trans (gd_t h_a0)).trans (bR_c fun r3 => ?_)
          refine (x_iload1 D16_38 rfl).trans ?_
          refine (x_caload D16_39).trans (ga_c ?_)
          refine (x_bipush D16_40 (k := 32) (by decide)).trans ?_
          refine (x_cne D16_42).trans (i_c ?_ ?_)
          · refine (x_iload1 D16_51 rfl).trans ?_
            exact x_iret D16_52 M16.2.2.1
          · refine (x_iinc D16_45 rfl (k := 1) (by decide) (ls' := [.ref a0, .int x1, .int (x2 + (1 : Int32))]) rfl).trans ?_
            refine (x_goto D16_48).trans ?_
            rfl
theorem D17_0 : decode (mB 17) 0 = .ok (.aload_n 0, 1) := by decide +kernel
theorem D17_1 : GF 17 1 8 4 0 := ⟨32, false, by decide +kernel, by decide +kernel⟩
theorem D17_4 : decode (mB 17) 4 = .ok (.istore_n 3, 1) := by decide +kernel
theorem D17_5 : decode (mB 17) 5 = .ok (.iload_n 3, 1) := by decide +kernel
theorem D17_6 : BR 17 6 (.ifCond .lt 46) (46) 52 := ⟨by decide +kernel, by decide, by decide⟩
theorem D17_52 : decode (mB 17) 52 = .ok (.iload_n 3, 1) := by decide +kernel
theorem D17_53 : decode (mB 17) 53 = .ok (.ireturn, 1) := by decide +kernel
theorem D17_9 : decode (mB 17) 9 = .ok (.iload_n 3, 1) := by decide +kernel
theorem D17_10 : decode (mB 17) 10 = .ok (.aload_n 0, 1) := by decide +kernel
theorem D17_11 : GF 17 11 8 1 0 := ⟨13, false, by decide +kernel, by decide +kernel⟩
theorem D17_14 : BR 17 14 (.if_icmp .ge 38) (38) 52 := ⟨by decide +kernel, by decide, by decide⟩
theorem D17_17 : decode (mB 17) 17 = .ok (.iload_n 3, 1) := by decide +kernel
theorem D17_18 : decode (mB 17) 18 = .ok (.aload_n 0, 1) := by decide +kernel
theorem D17_19 : GF 17 19 8 0 2 := ⟨9, true, by decide +kernel, by decide +kernel⟩
theorem D17_22 : decode (mB 17) 22 = .ok (.arraylength, 1) := by decide +kernel
theorem D17_23 : BR 17 23 (.if_icmp .ge 29) (29) 52 := ⟨by decide +kernel, by decide, by decide⟩
theorem D17_26 : decode (mB 17) 26 = .ok (.aload_n 0, 1) := by decide +kernel
theorem D17_27 : GF 17 27 8 0 2 := ⟨9, true, by decide +kernel, by decide +kernel⟩
theorem D17_30 : decode (mB 17) 30 = .ok (.iload_n 3, 1) := by decide +kernel
theorem D17_31 : decode (mB 17) 31 = .ok (.caload, 1) := by decide +kernel
theorem D17_32 : decode (mB 17) 32 = .ok (.iload_n 1, 1) := by decide +kernel
theorem D17_33 : BR 17 33 (.if_icmp .lt 19) (19) 52 := ⟨by decide +kernel, by decide, by decide⟩
theorem D17_36 : decode (mB 17) 36 = .ok (.aload_n 0, 1) := by decide +kernel
theorem D17_37 : GF 17 37 8 0 2 := ⟨9, true, by decide +kernel, by decide +kernel⟩
theorem D17_40 : decode (mB 17) 40 = .ok (.iload_n 3, 1) := by decide +kernel
theorem D17_41 : decode (mB 17) 41 = .ok (.caload, 1) := by decide +kernel
theorem D17_42 : decode (mB 17) 42 = .ok (.iload_n 2, 1) := by decide +kernel
theorem D17_43 : BR 17 43 (.if_icmp .gt 9) (9) 52 := ⟨by decide +kernel, by decide, by decide⟩
theorem D17_46 : decode (mB 17) 46 = .ok (.iinc 3 1, 3) := by decide +kernel
theorem D17_49 : BR 17 49 (.goto (-44)) (-44) 5 := ⟨by decide +kernel, by decide, by decide⟩
theorem Ta_runEnd_e (d : Nat) (a0 : Nat) (x1 : Int32) (x2 : Int32) (m : eM) (h_a0 : kd a0 = 8) : Ta_runEnd d a0 x1 x2 m = Ta_runEnd_5 d a0 x1 x2 (gI m a0 4) m := by
  unfold Ta_runEnd
  refine (x_aload1 D17_0 rfl).trans ?_
  refine ((x_getI D17_1).trans (gd_t h_a0)).trans ?_
  refine (x_istore1 D17_4 (ls' := [.ref a0, .int x1, .int x2, .int (gI m a0 4)]) rfl rfl).trans ?_
  rfl
theorem Ta_runEnd_5_e (d : Nat) (a0 : Nat) (x1 : Int32) (x2 : Int32) (x3 : Int32) (m : eM) (h_a0 : kd a0 = 8) : Ta_runEnd_5 d a0 x1 x2 x3 m = if x3 < 0 then (yI x3 m) else (if (gI m a0 1) ≤ x3 then (yI x3 m) else (bR (gR m a0 0) fun r1 => gl r1 (if ((aln m r1).toInt32) ≤ x3 then (yI x3 m) else (bR (gR m a0 0) fun r2 => ga m r2 22 x3 (if (gI m r2 x3.toNatClampNeg) < x1 then (yI x3 m) else (bR (gR m a0 0) fun r3 => ga m r3 22 x3 (if x2 < (gI m r3 x3.toNatClampNeg) then (yI x3 m) else (Ta_runEnd_5 d a0 x1 x2 (x3 + (1 : Int32)) m)))))))) := by
  unfold Ta_runEnd_5
  refine (x_iload1 D17_5 rfl).trans ?_
  refine (x_iflt D17_6).trans (i_c ?_ ?_)
  · refine (x_iload1 D17_52 rfl).trans ?_
    exact x_iret D17_53 M17.2.2.1
  · refine (x_iload1 D17_9 rfl).trans ?_
    refine (x_aload1 D17_10 rfl).trans ?_
    refine ((x_getI D17_11).trans (gd_t h_a0)).trans ?_
    refine (x_cge D17_14).trans (i_c ?_ ?_)
    · refine (x_iload1 D17_52 rfl).trans ?_
      exact x_iret D17_53 M17.2.2.1
    · refine (x_iload1 D17_17 rfl).trans ?_
      refine (x_aload1 D17_18 rfl).trans ?_
      refine ((x_getR D17_19).trans (gd_t h_a0)).trans (bR_c fun r1 => ?_)
      refine (x_alen D17_22).trans (gl_c ?_)
      refine (x_cge D17_23).trans (i_c ?_ ?_)
      · refine (x_iload1 D17_52 rfl).trans ?_
        exact x_iret D17_53 M17.2.2.1
      · refine (x_aload1 D17_26 rfl).trans ?_
        refine ((x_getR D17_27).trans (gd_t h_a0)).trans (bR_c fun r2 => ?_)
        refine (x_iload1 D17_30 rfl).trans ?_
        refine (x_caload D17_31).trans (ga_c ?_)
        refine (x_iload1 D17_32 rfl).trans ?_
        refine (x_clt D17_33).trans (i_c ?_ ?_)
        · refine (x_iload1 D17_52 rfl).trans ?_
          exact x_iret D17_53 M17.2.2.1
        · refine (x_aload1 D17_36 rfl).trans ?_
          refine ((x_getR D17_37).trans (gd_t h_a0)).trans (bR_c fun r3 => ?_)
          refine (x_iload1 D17_40 rfl).trans ?_
          refine (x_caload D17_41).trans (ga_c ?_)
          refine (x_iload1 D17_42 rfl).trans ?_
          refine (x_cgt D17_43).trans (i_c ?_ ?_)
          · refine (x_iload1 D17_52 rfl).trans ?_
            exact x_iret D17_53 M17.2.2.1
          · refine (x_iinc D17_46 rfl (k := 1) (by decide) (ls' := [.ref a0, .int x1, .int x2, .int (x3 + (1 : Int32))]) rfl).trans ?_
            refine (x_goto D17_49).trans ?_
            rfl
theorem D18_0 : decode (mB 18) 0 = .ok (.aload_n 0, 1) := by decide +kernel
theorem D18_1 : decode (mB 18) 1 = .ok (.lconst 0, 1) := by decide +kernel
theorem D18_2 : PF 18 2 8 7 1 := ⟨53, false, by decide +kernel, by decide +kernel, by decide +kernel, by decide⟩
theorem D18_5 : decode (mB 18) 5 = .ok (.aload_n 0, 1) := by decide +kernel
theorem D18_6 : GF 18 6 8 4 0 := ⟨32, false, by decide +kernel, by decide +kernel⟩
theorem D18_9 : decode (mB 18) 9 = .ok (.istore_n 2, 1) := by decide +kernel
theorem D18_10 : decode (mB 18) 10 = .ok (.iload_n 2, 1) := by decide +kernel
theorem D18_11 : BR 18 11 (.ifCond .lt 42) (42) 53 := ⟨by decide +kernel, by decide, by decide⟩
theorem D18_14 : decode (mB 18) 14 = .ok (.iload_n 2, 1) := by decide +kernel
theorem D18_15 : decode (mB 18) 15 = .ok (.iload_n 1, 1) := by decide +kernel
theorem D18_16 : BR 18 16 (.if_icmp .ge 37) (37) 53 := ⟨by decide +kernel, by decide, by decide⟩
theorem D18_19 : decode (mB 18) 19 = .ok (.iload_n 2, 1) := by decide +kernel
theorem D18_20 : decode (mB 18) 20 = .ok (.aload_n 0, 1) := by decide +kernel
theorem D18_21 : GF 18 21 8 0 2 := ⟨9, true, by decide +kernel, by decide +kernel⟩
theorem D18_24 : decode (mB 18) 24 = .ok (.arraylength, 1) := by decide +kernel
theorem D18_25 : BR 18 25 (.if_icmp .ge 28) (28) 53 := ⟨by decide +kernel, by decide, by decide⟩
theorem D18_28 : decode (mB 18) 28 = .ok (.aload_n 0, 1) := by decide +kernel
theorem D18_29 : decode (mB 18) 29 = .ok (.aload_n 0, 1) := by decide +kernel
theorem D18_30 : GF 18 30 8 7 1 := ⟨53, false, by decide +kernel, by decide +kernel⟩
theorem D18_33 : decode (mB 18) 33 = .ok (.bipush 8, 2) := by decide +kernel
theorem D18_35 : decode (mB 18) 35 = .ok (.lshl, 1) := by decide +kernel
theorem D18_36 : decode (mB 18) 36 = .ok (.aload_n 0, 1) := by decide +kernel
theorem D18_37 : GF 18 37 8 0 2 := ⟨9, true, by decide +kernel, by decide +kernel⟩
theorem D18_40 : decode (mB 18) 40 = .ok (.iload_n 2, 1) := by decide +kernel
theorem D18_41 : decode (mB 18) 41 = .ok (.caload, 1) := by decide +kernel
theorem D18_42 : decode (mB 18) 42 = .ok (.i2l, 1) := by decide +kernel
theorem D18_43 : decode (mB 18) 43 = .ok (.lor, 1) := by decide +kernel
theorem D18_44 : PF 18 44 8 7 1 := ⟨53, false, by decide +kernel, by decide +kernel, by decide +kernel, by decide⟩
theorem D18_47 : decode (mB 18) 47 = .ok (.iinc 2 1, 3) := by decide +kernel
theorem D18_50 : BR 18 50 (.goto (-40)) (-40) 10 := ⟨by decide +kernel, by decide, by decide⟩
theorem D18_53 : decode (mB 18) 53 = .ok (.aload_n 0, 1) := by decide +kernel
theorem D18_54 : decode (mB 18) 54 = .ok (.iload_n 1, 1) := by decide +kernel
theorem D18_55 : decode (mB 18) 55 = .ok (.aload_n 0, 1) := by decide +kernel
theorem D18_56 : GF 18 56 8 4 0 := ⟨32, false, by decide +kernel, by decide +kernel⟩
theorem D18_59 : decode (mB 18) 59 = .ok (.isub, 1) := by decide +kernel
theorem D18_60 : decode (mB 18) 60 = .ok (.bipush 8, 2) := by decide +kernel
theorem D18_62 : BR 18 62 (.if_icmp .gt 7) (7) 69 := ⟨by decide +kernel, by decide, by decide⟩
theorem D18_69 : decode (mB 18) 69 = .ok (.iconst 1, 1) := by decide +kernel
theorem D18_70 : PF 18 70 8 3 0 := ⟨43, false, by decide +kernel, by decide +kernel, by decide +kernel, by decide⟩
theorem D18_73 : decode (mB 18) 73 = .ok (.aload_n 0, 1) := by decide +kernel
theorem D18_74 : decode (mB 18) 74 = .ok (.iload_n 1, 1) := by decide +kernel
theorem D18_75 : PF 18 75 8 2 0 := ⟨19, false, by decide +kernel, by decide +kernel, by decide +kernel, by decide⟩
theorem D18_78 : decode (mB 18) 78 = .ok (.return_, 1) := by decide +kernel
theorem D18_65 : decode (mB 18) 65 = .ok (.iconst 2, 1) := by decide +kernel
theorem D18_66 : BR 18 66 (.goto 4) (4) 70 := ⟨by decide +kernel, by decide, by decide⟩
theorem Ta_readWord_e (d : Nat) (a0 : Nat) (x1 : Int32) (m : eM) (h_a0 : kd a0 = 8) : Ta_readWord d a0 x1 m = mJ m a0 7 (0 : Int64) fun m1 => Ta_readWord_10 d a0 x1 (gI m1 a0 4) m1 := by
  unfold Ta_readWord
  refine (x_aload1 D18_0 rfl).trans ?_
  refine (x_lconst0 D18_1).trans ?_
  refine (x_putL D18_2 h_a0).trans ?_
  refine mJ_i (fun m1 => X d 18 5 [.ref a0, .int x1, eU] [] m1) _ ?_
  intro m1
  refine (x_aload1 D18_5 rfl).trans ?_
  refine ((x_getI D18_6).trans (gd_t h_a0)).trans ?_
  refine (x_istore1 D18_9 (ls' := [.ref a0, .int x1, .int (gI m1 a0 4)]) rfl rfl).trans ?_
  rfl
theorem Ta_readWord_10_e (d : Nat) (a0 : Nat) (x1 : Int32) (x2 : Int32) (m : eM) (h_a0 : kd a0 = 8) : Ta_readWord_10 d a0 x1 x2 m = if x2 < 0 then (Ta_readWord_53 d a0 x1 x2 m) else (if x1 ≤ x2 then (Ta_readWord_53 d a0 x1 x2 m) else (bR (gR m a0 0) fun r1 => gl r1 (if ((aln m r1).toInt32) ≤ x2 then (Ta_readWord_53 d a0 x1 x2 m) else (bR (gR m a0 0) fun r2 => ga m r2 22 x2 (mJ m a0 7 (((gL m a0 7) <<< ((8 : Int32).toInt64 &&& 63)) ||| ((gI m r2 x2.toNatClampNeg).toInt64)) fun m3 => Ta_readWord_10 d a0 x1 (x2 + (1 : Int32)) m3))))) := by
  unfold Ta_readWord_10
  refine (x_iload1 D18_10 rfl).trans ?_
  refine (x_iflt D18_11).trans (i_c ?_ ?_)
  · rfl
  · refine (x_iload1 D18_14 rfl).trans ?_
    refine (x_iload1 D18_15 rfl).trans ?_
    refine (x_cge D18_16).trans (i_c ?_ ?_)
    · rfl
    · refine (x_iload1 D18_19 rfl).trans ?_
      refine (x_aload1 D18_20 rfl).trans ?_
      refine ((x_getR D18_21).trans (gd_t h_a0)).trans (bR_c fun r1 => ?_)
      refine (x_alen D18_24).trans (gl_c ?_)
      refine (x_cge D18_25).trans (i_c ?_ ?_)
      · rfl
      · refine (x_aload1 D18_28 rfl).trans ?_
        refine (x_aload1 D18_29 rfl).trans ?_
        refine ((x_getL D18_30).trans (gd_t h_a0)).trans ?_
        refine (x_bipush D18_33 (k := 8) (by decide)).trans ?_
        refine (x_lshl D18_35).trans ?_
        refine (x_aload1 D18_36 rfl).trans ?_
        refine ((x_getR D18_37).trans (gd_t h_a0)).trans (bR_c fun r2 => ?_)
        refine (x_iload1 D18_40 rfl).trans ?_
        refine (x_caload D18_41).trans (ga_c ?_)
        refine (x_i2l D18_42).trans ?_
        refine (x_lor D18_43).trans ?_
        refine (x_putL D18_44 h_a0).trans ?_
        refine mJ_i (fun m3 => X d 18 47 [.ref a0, .int x1, .int x2] [] m3) _ ?_
        intro m3
        refine (x_iinc D18_47 rfl (k := 1) (by decide) (ls' := [.ref a0, .int x1, .int (x2 + (1 : Int32))]) rfl).trans ?_
        refine (x_goto D18_50).trans ?_
        rfl
theorem Ta_readWord_53_e (d : Nat) (a0 : Nat) (x1 : Int32) (x2 : Int32) (m : eM) (h_a0 : kd a0 = 8) : Ta_readWord_53 d a0 x1 x2 m = if (8 : Int32) < (x1 - (gI m a0 4)) then (mI m a0 3 (1 : Int32) fun m1 => mI m1 a0 2 x1 fun m2 => yV m2) else (mI m a0 3 (2 : Int32) fun m3 => mI m3 a0 2 x1 fun m4 => yV m4) := by
  unfold Ta_readWord_53
  refine (x_aload1 D18_53 rfl).trans ?_
  refine (x_iload1 D18_54 rfl).trans ?_
  refine (x_aload1 D18_55 rfl).trans ?_
  refine ((x_getI D18_56).trans (gd_t h_a0)).trans ?_
  refine (x_isub D18_59).trans ?_
  refine (x_bipush D18_60 (k := 8) (by decide)).trans ?_
  refine (x_cgt D18_62).trans (i_c ?_ ?_)
  · refine (x_iconst D18_69 (k := 1) (by decide)).trans ?_
    refine (x_putI D18_70 h_a0).trans ?_
    refine mI_i (fun m1 => X d 18 73 [.ref a0, .int x1, .int x2] [] m1) _ ?_
    intro m1
    refine (x_aload1 D18_73 rfl).trans ?_
    refine (x_iload1 D18_74 rfl).trans ?_
    refine (x_putI D18_75 h_a0).trans ?_
    refine mI_i (fun m2 => X d 18 78 [.ref a0, .int x1, .int x2] [] m2) _ ?_
    intro m2
    exact x_vret D18_78 M18.2.2.1
  · refine (x_iconst D18_65 (k := 2) (by decide)).trans ?_
    refine (x_goto D18_66).trans ?_
    refine (x_putI D18_70 h_a0).trans ?_
    refine mI_i (fun m3 => X d 18 73 [.ref a0, .int x1, .int x2] [] m3) _ ?_
    intro m3
    refine (x_aload1 D18_73 rfl).trans ?_
    refine (x_iload1 D18_74 rfl).trans ?_
    refine (x_putI D18_75 h_a0).trans ?_
    refine mI_i (fun m4 => X d 18 78 [.ref a0, .int x1, .int x2] [] m4) _ ?_
    intro m4
    exact x_vret D18_78 M18.2.2.1
theorem D19_0 : decode (mB 19) 0 = .ok (.aload_n 0, 1) := by decide +kernel
theorem D19_1 : decode (mB 19) 1 = .ok (.iconst 0, 1) := by decide +kernel
theorem D19_2 : PF 19 2 8 6 0 := ⟨57, false, by decide +kernel, by decide +kernel, by decide +kernel, by decide⟩
theorem D19_5 : decode (mB 19) 5 = .ok (.aload_n 0, 1) := by decide +kernel
theorem D19_6 : GF 19 6 8 4 0 := ⟨32, false, by decide +kernel, by decide +kernel⟩
theorem D19_9 : decode (mB 19) 9 = .ok (.istore_n 2, 1) := by decide +kernel
theorem D19_10 : decode (mB 19) 10 = .ok (.iload_n 2, 1) := by decide +kernel
theorem D19_11 : BR 19 11 (.ifCond .lt 44) (44) 55 := ⟨by decide +kernel, by decide, by decide⟩
theorem D19_14 : decode (mB 19) 14 = .ok (.iload_n 2, 1) := by decide +kernel
theorem D19_15 : decode (mB 19) 15 = .ok (.iload_n 1, 1) := by decide +kernel
theorem D19_16 : BR 19 16 (.if_icmp .ge 39) (39) 55 := ⟨by decide +kernel, by decide, by decide⟩
theorem D19_19 : decode (mB 19) 19 = .ok (.iload_n 2, 1) := by decide +kernel
theorem D19_20 : decode (mB 19) 20 = .ok (.aload_n 0, 1) := by decide +kernel
theorem D19_21 : GF 19 21 8 0 2 := ⟨9, true, by decide +kernel, by decide +kernel⟩
theorem D19_24 : decode (mB 19) 24 = .ok (.arraylength, 1) := by decide +kernel
theorem D19_25 : BR 19 25 (.if_icmp .ge 30) (30) 55 := ⟨by decide +kernel, by decide, by decide⟩
theorem D19_28 : decode (mB 19) 28 = .ok (.aload_n 0, 1) := by decide +kernel
theorem D19_29 : decode (mB 19) 29 = .ok (.aload_n 0, 1) := by decide +kernel
theorem D19_30 : GF 19 30 8 6 0 := ⟨57, false, by decide +kernel, by decide +kernel⟩
theorem D19_33 : decode (mB 19) 33 = .ok (.bipush 10, 2) := by decide +kernel
theorem D19_35 : decode (mB 19) 35 = .ok (.imul, 1) := by decide +kernel
theorem D19_36 : decode (mB 19) 36 = .ok (.aload_n 0, 1) := by decide +kernel
theorem D19_37 : GF 19 37 8 0 2 := ⟨9, true, by decide +kernel, by decide +kernel⟩
theorem D19_40 : decode (mB 19) 40 = .ok (.iload_n 2, 1) := by decide +kernel
theorem D19_41 : decode (mB 19) 41 = .ok (.caload, 1) := by decide +kernel
theorem D19_42 : decode (mB 19) 42 = .ok (.iadd, 1) := by decide +kernel
theorem D19_43 : decode (mB 19) 43 = .ok (.bipush 48, 2) := by decide +kernel
theorem D19_45 : decode (mB 19) 45 = .ok (.isub, 1) := by decide +kernel
theorem D19_46 : PF 19 46 8 6 0 := ⟨57, false, by decide +kernel, by decide +kernel, by decide +kernel, by decide⟩
theorem D19_49 : decode (mB 19) 49 = .ok (.iinc 2 1, 3) := by decide +kernel
theorem D19_52 : BR 19 52 (.goto (-42)) (-42) 10 := ⟨by decide +kernel, by decide, by decide⟩
theorem D19_55 : decode (mB 19) 55 = .ok (.aload_n 0, 1) := by decide +kernel
theorem D19_56 : decode (mB 19) 56 = .ok (.iload_n 1, 1) := by decide +kernel
theorem D19_57 : decode (mB 19) 57 = .ok (.aload_n 0, 1) := by decide +kernel
theorem D19_58 : GF 19 58 8 4 0 := ⟨32, false, by decide +kernel, by decide +kernel⟩
theorem D19_61 : decode (mB 19) 61 = .ok (.isub, 1) := by decide +kernel
theorem D19_62 : decode (mB 19) 62 = .ok (.iconst 4, 1) := by decide +kernel
theorem D19_63 : BR 19 63 (.if_icmp .gt 7) (7) 70 := ⟨by decide +kernel, by decide, by decide⟩
theorem D19_70 : decode (mB 19) 70 = .ok (.iconst 1, 1) := by decide +kernel
theorem D19_71 : PF 19 71 8 3 0 := ⟨43, false, by decide +kernel, by decide +kernel, by decide +kernel, by decide⟩
theorem D19_74 : decode (mB 19) 74 = .ok (.aload_n 0, 1) := by decide +kernel
theorem D19_75 : decode (mB 19) 75 = .ok (.iload_n 1, 1) := by decide +kernel
theorem D19_76 : PF 19 76 8 2 0 := ⟨19, false, by decide +kernel, by decide +kernel, by decide +kernel, by decide⟩
theorem D19_79 : decode (mB 19) 79 = .ok (.return_, 1) := by decide +kernel
theorem D19_66 : decode (mB 19) 66 = .ok (.iconst 3, 1) := by decide +kernel
theorem D19_67 : BR 19 67 (.goto 4) (4) 71 := ⟨by decide +kernel, by decide, by decide⟩
theorem Ta_readNumber_e (d : Nat) (a0 : Nat) (x1 : Int32) (m : eM) (h_a0 : kd a0 = 8) : Ta_readNumber d a0 x1 m = mI m a0 6 (0 : Int32) fun m1 => Ta_readNumber_10 d a0 x1 (gI m1 a0 4) m1 := by
  unfold Ta_readNumber
  refine (x_aload1 D19_0 rfl).trans ?_
  refine (x_iconst D19_1 (k := 0) (by decide)).trans ?_
  refine (x_putI D19_2 h_a0).trans ?_
  refine mI_i (fun m1 => X d 19 5 [.ref a0, .int x1, eU] [] m1) _ ?_
  intro m1
  refine (x_aload1 D19_5 rfl).trans ?_
  refine ((x_getI D19_6).trans (gd_t h_a0)).trans ?_
  refine (x_istore1 D19_9 (ls' := [.ref a0, .int x1, .int (gI m1 a0 4)]) rfl rfl).trans ?_
  rfl
theorem Ta_readNumber_10_e (d : Nat) (a0 : Nat) (x1 : Int32) (x2 : Int32) (m : eM) (h_a0 : kd a0 = 8) : Ta_readNumber_10 d a0 x1 x2 m = if x2 < 0 then (Ta_readNumber_55 d a0 x1 x2 m) else (if x1 ≤ x2 then (Ta_readNumber_55 d a0 x1 x2 m) else (bR (gR m a0 0) fun r1 => gl r1 (if ((aln m r1).toInt32) ≤ x2 then (Ta_readNumber_55 d a0 x1 x2 m) else (bR (gR m a0 0) fun r2 => ga m r2 22 x2 (mI m a0 6 ((((gI m a0 6) * (10 : Int32)) + (gI m r2 x2.toNatClampNeg)) - (48 : Int32)) fun m3 => Ta_readNumber_10 d a0 x1 (x2 + (1 : Int32)) m3))))) := by
  unfold Ta_readNumber_10
  refine (x_iload1 D19_10 rfl).trans ?_
  refine (x_iflt D19_11).trans (i_c ?_ ?_)
  · rfl
  · refine (x_iload1 D19_14 rfl).trans ?_
    refine (x_iload1 D19_15 rfl).trans ?_
    refine (x_cge D19_16).trans (i_c ?_ ?_)
    · rfl
    · refine (x_iload1 D19_19 rfl).trans ?_
      refine (x_aload1 D19_20 rfl).trans ?_
      refine ((x_getR D19_21).trans (gd_t h_a0)).trans (bR_c fun r1 => ?_)
      refine (x_alen D19_24).trans (gl_c ?_)
      refine (x_cge D19_25).trans (i_c ?_ ?_)
      · rfl
      · refine (x_aload1 D19_28 rfl).trans ?_
        refine (x_aload1 D19_29 rfl).trans ?_
        refine ((x_getI D19_30).trans (gd_t h_a0)).trans ?_
        refine (x_bipush D19_33 (k := 10) (by decide)).trans ?_
        refine (x_imul D19_35).trans ?_
        refine (x_aload1 D19_36 rfl).trans ?_
        refine ((x_getR D19_37).trans (gd_t h_a0)).trans (bR_c fun r2 => ?_)
        refine (x_iload1 D19_40 rfl).trans ?_
        refine (x_caload D19_41).trans (ga_c ?_)
        refine (x_iadd D19_42).trans ?_
        refine (x_bipush D19_43 (k := 48) (by decide)).trans ?_
        refine (x_isub D19_45).trans ?_
        refine (x_putI D19_46 h_a0).trans ?_
        refine mI_i (fun m3 => X d 19 49 [.ref a0, .int x1, .int x2] [] m3) _ ?_
        intro m3
        refine (x_iinc D19_49 rfl (k := 1) (by decide) (ls' := [.ref a0, .int x1, .int (x2 + (1 : Int32))]) rfl).trans ?_
        refine (x_goto D19_52).trans ?_
        rfl
theorem Ta_readNumber_55_e (d : Nat) (a0 : Nat) (x1 : Int32) (x2 : Int32) (m : eM) (h_a0 : kd a0 = 8) : Ta_readNumber_55 d a0 x1 x2 m = if (4 : Int32) < (x1 - (gI m a0 4)) then (mI m a0 3 (1 : Int32) fun m1 => mI m1 a0 2 x1 fun m2 => yV m2) else (mI m a0 3 (3 : Int32) fun m3 => mI m3 a0 2 x1 fun m4 => yV m4) := by
  unfold Ta_readNumber_55
  refine (x_aload1 D19_55 rfl).trans ?_
  refine (x_iload1 D19_56 rfl).trans ?_
  refine (x_aload1 D19_57 rfl).trans ?_
  refine ((x_getI D19_58).trans (gd_t h_a0)).trans ?_
  refine (x_isub D19_61).trans ?_
  refine (x_iconst D19_62 (k := 4) (by decide)).trans ?_
  refine (x_cgt D19_63).trans (i_c ?_ ?_)
  · refine (x_iconst D19_70 (k := 1) (by decide)).trans ?_
    refine (x_putI D19_71 h_a0).trans ?_
    refine mI_i (fun m1 => X d 19 74 [.ref a0, .int x1, .int x2] [] m1) _ ?_
    intro m1
    refine (x_aload1 D19_74 rfl).trans ?_
    refine (x_iload1 D19_75 rfl).trans ?_
    refine (x_putI D19_76 h_a0).trans ?_
    refine mI_i (fun m2 => X d 19 79 [.ref a0, .int x1, .int x2] [] m2) _ ?_
    intro m2
    exact x_vret D19_79 M19.2.2.1
  · refine (x_iconst D19_66 (k := 3) (by decide)).trans ?_
    refine (x_goto D19_67).trans ?_
    refine (x_putI D19_71 h_a0).trans ?_
    refine mI_i (fun m3 => X d 19 74 [.ref a0, .int x1, .int x2] [] m3) _ ?_
    intro m3
    refine (x_aload1 D19_74 rfl).trans ?_
    refine (x_iload1 D19_75 rfl).trans ?_
    refine (x_putI D19_76 h_a0).trans ?_
    refine mI_i (fun m4 => X d 19 79 [.ref a0, .int x1, .int x2] [] m4) _ ?_
    intro m4
    exact x_vret D19_79 M19.2.2.1
theorem D21_0 : decode (mB 21) 0 = .ok (.aload_n 0, 1) := by decide +kernel
theorem D21_1 : GF 21 1 8 3 0 := ⟨43, false, by decide +kernel, by decide +kernel⟩
theorem D21_4 : decode (mB 21) 4 = .ok (.ireturn, 1) := by decide +kernel
theorem Ta_kind_e (d : Nat) (a0 : Nat) (m : eM) (h_a0 : kd a0 = 8) : Ta_kind d a0 m = yI (gI m a0 3) m := by
  unfold Ta_kind
  refine (x_aload1 D21_0 rfl).trans ?_
  refine ((x_getI D21_1).trans (gd_t h_a0)).trans ?_
  exact x_iret D21_4 M21.2.2.1
theorem D22_0 : decode (mB 22) 0 = .ok (.aload_n 0, 1) := by decide +kernel
theorem D22_1 : GF 22 1 8 3 0 := ⟨43, false, by decide +kernel, by decide +kernel⟩
theorem D22_4 : decode (mB 22) 4 = .ok (.iconst 2, 1) := by decide +kernel
theorem D22_5 : BR 22 5 (.if_icmp .ne 16) (16) 21 := ⟨by decide +kernel, by decide, by decide⟩
theorem D22_21 : decode (mB 22) 21 = .ok (.iconst 0, 1) := by decide +kernel
theorem D22_22 : decode (mB 22) 22 = .ok (.ireturn, 1) := by decide +kernel
theorem D22_8 : decode (mB 22) 8 = .ok (.aload_n 0, 1) := by decide +kernel
theorem D22_9 : GF 22 9 8 7 1 := ⟨53, false, by decide +kernel, by decide +kernel⟩
theorem D22_12 : decode (mB 22) 12 = .ok (.lload_n 1, 1) := by decide +kernel
theorem D22_13 : decode (mB 22) 13 = .ok (.lcmp, 1) := by decide +kernel
theorem D22_14 : BR 22 14 (.ifCond .ne 7) (7) 21 := ⟨by decide +kernel, by decide, by decide⟩
theorem D22_17 : decode (mB 22) 17 = .ok (.iconst 1, 1) := by decide +kernel
theorem D22_18 : BR 22 18 (.goto 4) (4) 22 := ⟨by decide +kernel, by decide, by decide⟩
theorem Ta_isWord_e (d : Nat) (a0 : Nat) (y1 : Int64) (m : eM) (h_a0 : kd a0 = 8) : Ta_isWord d a0 y1 m = if ¬ (gI m a0 3) = (2 : Int32) then (yI (0 : Int32) m) else (if ¬ (lg_cmp (gL m a0 7) y1) = 0 then (yI (0 : Int32) m) else (yI (1 : Int32) m)) := by
  unfold Ta_isWord
  refine (x_aload1 D22_0 rfl).trans ?_
  refine ((x_getI D22_1).trans (gd_t h_a0)).trans ?_
  refine (x_iconst D22_4 (k := 2) (by decide)).trans ?_
  refine (x_cne D22_5).trans (i_c ?_ ?_)
  · refine (x_iconst D22_21 (k := 0) (by decide)).trans ?_
    exact (x_bret D22_22 M22.2.2.1).trans yB0
  · refine (x_aload1 D22_8 rfl).trans ?_
    refine ((x_getL D22_9).trans (gd_t h_a0)).trans ?_
    refine (x_lload1 D22_12 rfl).trans ?_
    refine (x_lcmp D22_13).trans ?_
    refine (x_ifne D22_14).trans (i_c ?_ ?_)
    · refine (x_iconst D22_21 (k := 0) (by decide)).trans ?_
      exact (x_bret D22_22 M22.2.2.1).trans yB0
    · refine (x_iconst D22_17 (k := 1) (by decide)).trans ?_
      refine (x_goto D22_18).trans ?_
      exact (x_bret D22_22 M22.2.2.1).trans yB1
theorem D25_0 : decode (mB 25) 0 = .ok (.aload_n 0, 1) := by decide +kernel
theorem D25_1 : GF 25 1 8 8 0 := ⟨22, false, by decide +kernel, by decide +kernel⟩
theorem D25_4 : BR 25 4 (.ifCond .ne 16) (16) 20 := ⟨by decide +kernel, by decide, by decide⟩
theorem D25_20 : decode (mB 25) 20 = .ok (.iconst 0, 1) := by decide +kernel
theorem D25_21 : decode (mB 25) 21 = .ok (.ireturn, 1) := by decide +kernel
theorem D25_7 : decode (mB 25) 7 = .ok (.aload_n 0, 1) := by decide +kernel
theorem D25_8 : decode (mB 25) 8 = .ok (.iload_n 1, 1) := by decide +kernel
theorem D25_9 : decode (mB 25) 9 = .ok (.bipush 16, 2) := by decide +kernel
theorem D25_11 : decode (mB 25) 11 = .ok (.aload_n 0, 1) := by decide +kernel
theorem D25_12 : GF 25 12 8 4 0 := ⟨32, false, by decide +kernel, by decide +kernel⟩
theorem D25_15 : decode (mB 25) 15 = .ok (.imul, 1) := by decide +kernel
theorem D25_16 : decode (mB 25) 16 = .ok (.iadd, 1) := by decide +kernel
theorem D25_17 : PF 25 17 8 8 0 := ⟨22, false, by decide +kernel, by decide +kernel, by decide +kernel, by decide⟩
theorem Ta_wrong_e (d : Nat) (a0 : Nat) (x1 : Int32) (m : eM) (h_a0 : kd a0 = 8) : Ta_wrong d a0 x1 m = if ¬ (gI m a0 8) = 0 then (yI (0 : Int32) m) else (mI m a0 8 (x1 + ((16 : Int32) * (gI m a0 4))) fun m1 => yI (0 : Int32) m1) := by
  unfold Ta_wrong
  refine (x_aload1 D25_0 rfl).trans ?_
  refine ((x_getI D25_1).trans (gd_t h_a0)).trans ?_
  refine (x_ifne D25_4).trans (i_c ?_ ?_)
  · refine (x_iconst D25_20 (k := 0) (by decide)).trans ?_
    exact (x_bret D25_21 M25.2.2.1).trans yB0
  · refine (x_aload1 D25_7 rfl).trans ?_
    refine (x_iload1 D25_8 rfl).trans ?_
    refine (x_bipush D25_9 (k := 16) (by decide)).trans ?_
    refine (x_aload1 D25_11 rfl).trans ?_
    refine ((x_getI D25_12).trans (gd_t h_a0)).trans ?_
    refine (x_imul D25_15).trans ?_
    refine (x_iadd D25_16).trans ?_
    refine (x_putI D25_17 h_a0).trans ?_
    refine mI_i (fun m1 => X d 25 20 [.ref a0, .int x1] [] m1) _ ?_
    intro m1
    refine (x_iconst D25_20 (k := 0) (by decide)).trans ?_
    exact (x_bret D25_21 M25.2.2.1).trans yB0
theorem D26_0 : decode (mB 26) 0 = .ok (.aload_n 0, 1) := by decide +kernel
theorem D26_1 : GF 26 1 8 3 0 := ⟨43, false, by decide +kernel, by decide +kernel⟩
theorem D26_4 : decode (mB 26) 4 = .ok (.iconst 2, 1) := by decide +kernel
theorem D26_5 : BR 26 5 (.if_icmp .eq 5) (5) 10 := ⟨by decide +kernel, by decide, by decide⟩
theorem R26_10 : sRes (mC 26) 60 = some 2 := by decide +kernel
theorem D26_10 : decode (mB 26) 10 = .ok (.getstatic 60, 3) := by decide +kernel
theorem D26_13 : decode (mB 26) 13 = .ok (.astore_n 1, 1) := by decide +kernel
theorem D26_14 : decode (mB 26) 14 = .ok (.aload_n 1, 1) := by decide +kernel
theorem D26_15 : decode (mB 26) 15 = .ok (.arraylength, 1) := by decide +kernel
theorem D26_16 : decode (mB 26) 16 = .ok (.istore_n 2, 1) := by decide +kernel
theorem D26_17 : decode (mB 26) 17 = .ok (.iconst 0, 1) := by decide +kernel
theorem D26_18 : decode (mB 26) 18 = .ok (.istore_n 3, 1) := by decide +kernel
theorem D26_8 : decode (mB 26) 8 = .ok (.iconst 0, 1) := by decide +kernel
theorem D26_9 : decode (mB 26) 9 = .ok (.ireturn, 1) := by decide +kernel
theorem D26_19 : decode (mB 26) 19 = .ok (.iload_n 3, 1) := by decide +kernel
theorem D26_20 : decode (mB 26) 20 = .ok (.iload_n 2, 1) := by decide +kernel
theorem D26_21 : BR 26 21 (.if_icmp .ge 26) (26) 47 := ⟨by decide +kernel, by decide, by decide⟩
theorem D26_47 : decode (mB 26) 47 = .ok (.iconst 1, 1) := by decide +kernel
theorem D26_48 : decode (mB 26) 48 = .ok (.ireturn, 1) := by decide +kernel
theorem D26_24 : decode (mB 26) 24 = .ok (.aload_n 1, 1) := by decide +kernel
theorem D26_25 : decode (mB 26) 25 = .ok (.iload_n 3, 1) := by decide +kernel
theorem D26_26 : decode (mB 26) 26 = .ok (.laload, 1) := by decide +kernel
theorem D26_27 : decode (mB 26) 27 = .ok (.lstore 4, 2) := by decide +kernel
theorem D26_29 : decode (mB 26) 29 = .ok (.aload_n 0, 1) := by decide +kernel
theorem D26_30 : GF 26 30 8 7 1 := ⟨53, false, by decide +kernel, by decide +kernel⟩
theorem D26_33 : decode (mB 26) 33 = .ok (.lload 4, 2) := by decide +kernel
theorem D26_35 : decode (mB 26) 35 = .ok (.lcmp, 1) := by decide +kernel
theorem D26_36 : BR 26 36 (.ifCond .ne 5) (5) 41 := ⟨by decide +kernel, by decide, by decide⟩
theorem D26_41 : decode (mB 26) 41 = .ok (.iinc 3 1, 3) := by decide +kernel
theorem D26_44 : BR 26 44 (.goto (-25)) (-25) 19 := ⟨by decide +kernel, by decide, by decide⟩
theorem D26_39 : decode (mB 26) 39 = .ok (.iconst 0, 1) := by decide +kernel
theorem D26_40 : decode (mB 26) 40 = .ok (.ireturn, 1) := by decide +kernel
theorem Ta_isName_e (d : Nat) (a0 : Nat) (m : eM) (h_a0 : kd a0 = 8) : Ta_isName d a0 m = if (gI m a0 3) = (2 : Int32) then (gl 2 (Ta_isName_19 d a0 2 ((aln m 2).toInt32) (0 : Int32) eU m)) else (yI (0 : Int32) m) := by
  unfold Ta_isName
  refine (x_aload1 D26_0 rfl).trans ?_
  refine ((x_getI D26_1).trans (gd_t h_a0)).trans ?_
  refine (x_iconst D26_4 (k := 2) (by decide)).trans ?_
  refine (x_ceq D26_5).trans (i_c ?_ ?_)
  · refine (x_gets D26_10 R26_10).trans ?_
    refine (x_astore1 D26_13 (ls' := [.ref a0, .ref 2, eU, eU, eU, eU]) rfl rfl).trans ?_
    refine (x_aload1 D26_14 rfl).trans ?_
    refine (x_alen D26_15).trans (gl_c ?_)
    refine (x_istore1 D26_16 (ls' := [.ref a0, .ref 2, .int ((aln m 2).toInt32), eU, eU, eU]) rfl rfl).trans ?_
    refine (x_iconst D26_17 (k := 0) (by decide)).trans ?_
    refine (x_istore1 D26_18 (ls' := [.ref a0, .ref 2, .int ((aln m 2).toInt32), .int (0 : Int32), eU, eU]) rfl rfl).trans ?_
    rfl
  · refine (x_iconst D26_8 (k := 0) (by decide)).trans ?_
    exact (x_bret D26_9 M26.2.2.1).trans yB0
theorem Ta_isName_19_e (d : Nat) (a0 : Nat) (a1 : Nat) (x2 : Int32) (x3 : Int32) (w4 : Value) (m : eM) (h_a0 : kd a0 = 8) : Ta_isName_19 d a0 a1 x2 x3 w4 m = if x2 ≤ x3 then (yI (1 : Int32) m) else (ga m a1 21 x3 (if ¬ (lg_cmp (gL m a0 7) (gL m a1 x3.toNatClampNeg)) = 0 then (Ta_isName_19 d a0 a1 x2 (x3 + (1 : Int32)) (.long (gL m a1 x3.toNatClampNeg)) m) else (yI (0 : Int32) m))) := by
  unfold Ta_isName_19
  refine (x_iload1 D26_19 rfl).trans ?_
  refine (x_iload1 D26_20 rfl).trans ?_
  refine (x_cge D26_21).trans (i_c ?_ ?_)
  · refine (x_iconst D26_47 (k := 1) (by decide)).trans ?_
    exact (x_bret D26_48 M26.2.2.1).trans yB1
  · refine (x_aload1 D26_24 rfl).trans ?_
    refine (x_iload1 D26_25 rfl).trans ?_
    refine (x_laload D26_26).trans (ga_c ?_)
    refine (x_lstore2 D26_27 (ls' := [.ref a0, .ref a1, .int x2, .int x3, .long (gL m a1 x3.toNatClampNeg), eU]) rfl rfl).trans ?_
    refine (x_aload1 D26_29 rfl).trans ?_
    refine ((x_getL D26_30).trans (gd_t h_a0)).trans ?_
    refine (x_lload2 D26_33 rfl).trans ?_
    refine (x_lcmp D26_35).trans ?_
    refine (x_ifne D26_36).trans (i_c ?_ ?_)
    · refine (x_iinc D26_41 rfl (k := 1) (by decide) (ls' := [.ref a0, .ref a1, .int x2, .int (x3 + (1 : Int32)), .long (gL m a1 x3.toNatClampNeg), eU]) rfl).trans ?_
      refine (x_goto D26_44).trans ?_
      rfl
    · refine (x_iconst D26_39 (k := 0) (by decide)).trans ?_
      exact (x_bret D26_40 M26.2.2.1).trans yB0
theorem D27_0 : decode (mB 27) 0 = .ok (.aload_n 0, 1) := by decide +kernel
theorem D27_1 : GF 27 1 8 7 1 := ⟨53, false, by decide +kernel, by decide +kernel⟩
theorem D27_4 : decode (mB 27) 4 = .ok (.lreturn, 1) := by decide +kernel
theorem Ta_word_e (d : Nat) (a0 : Nat) (m : eM) (h_a0 : kd a0 = 8) : Ta_word d a0 m = yL (gL m a0 7) m := by
  unfold Ta_word
  refine (x_aload1 D27_0 rfl).trans ?_
  refine ((x_getL D27_1).trans (gd_t h_a0)).trans ?_
  exact x_lret D27_4 M27.2.2.1
theorem D30_0 : decode (mB 30) 0 = .ok (.aload_n 0, 1) := by decide +kernel
theorem D30_1 : GF 30 1 8 3 0 := ⟨43, false, by decide +kernel, by decide +kernel⟩
theorem D30_4 : decode (mB 30) 4 = .ok (.iconst 3, 1) := by decide +kernel
theorem D30_5 : BR 30 5 (.if_icmp .eq 9) (9) 14 := ⟨by decide +kernel, by decide, by decide⟩
theorem D30_14 : decode (mB 30) 14 = .ok (.aload_n 0, 1) := by decide +kernel
theorem D30_15 : GF 30 15 8 6 0 := ⟨57, false, by decide +kernel, by decide +kernel⟩
theorem D30_18 : decode (mB 30) 18 = .ok (.iload_n 1, 1) := by decide +kernel
theorem D30_19 : BR 30 19 (.if_icmp .le 11) (11) 30 := ⟨by decide +kernel, by decide, by decide⟩
theorem D30_30 : decode (mB 30) 30 = .ok (.iconst 1, 1) := by decide +kernel
theorem D30_31 : BR 30 31 (.goto 4) (4) 35 := ⟨by decide +kernel, by decide, by decide⟩
theorem D30_35 : decode (mB 30) 35 = .ok (.ireturn, 1) := by decide +kernel
theorem D30_22 : decode (mB 30) 22 = .ok (.aload_n 0, 1) := by decide +kernel
theorem D30_23 : decode (mB 30) 23 = .ok (.iconst 4, 1) := by decide +kernel
theorem D30_24 : CS 30 24 25 0 := ⟨.invokevirtual 68, by decide +kernel, by decide +kernel, by decide +kernel, by decide⟩
theorem D30_27 : BR 30 27 (.ifCond .eq 7) (7) 34 := ⟨by decide +kernel, by decide, by decide⟩
theorem D30_34 : decode (mB 30) 34 = .ok (.iconst 0, 1) := by decide +kernel
theorem D30_8 : decode (mB 30) 8 = .ok (.aload_n 0, 1) := by decide +kernel
theorem D30_9 : decode (mB 30) 9 = .ok (.iconst 1, 1) := by decide +kernel
theorem D30_10 : CS 30 10 25 0 := ⟨.invokevirtual 68, by decide +kernel, by decide +kernel, by decide +kernel, by decide⟩
theorem D30_13 : decode (mB 30) 13 = .ok (.ireturn, 1) := by decide +kernel
theorem Ta_numberUpTo_e (d : Nat) (a0 : Nat) (x1 : Int32) (m : eM) (h_a0 : kd a0 = 8) : Ta_numberUpTo (d + 1) a0 x1 m = if (gI m a0 3) = (3 : Int32) then (if (gI m a0 6) ≤ x1 then (yI (1 : Int32) m) else (bI (Ta_wrong d a0 (4 : Int32) m) fun v2 m1 => if v2 = 0 then (yI (0 : Int32) m1) else (yI (1 : Int32) m1))) else (bI (Ta_wrong d a0 (1 : Int32) m) fun v4 m3 => yB v4 m3) := by
  unfold Ta_numberUpTo
  refine (x_aload1 D30_0 rfl).trans ?_
  refine ((x_getI D30_1).trans (gd_t h_a0)).trans ?_
  refine (x_iconst D30_4 (k := 3) (by decide)).trans ?_
  refine (x_ceq D30_5).trans (i_c ?_ ?_)
  · refine (x_aload1 D30_14 rfl).trans ?_
    refine ((x_getI D30_15).trans (gd_t h_a0)).trans ?_
    refine (x_iload1 D30_18 rfl).trans ?_
    refine (x_cle D30_19).trans (i_c ?_ ?_)
    · refine (x_iconst D30_30 (k := 1) (by decide)).trans ?_
      refine (x_goto D30_31).trans ?_
      exact (x_bret D30_35 M30.2.2.1).trans yB1
    · refine (x_aload1 D30_22 rfl).trans ?_
      refine (x_iconst D30_23 (k := 4) (by decide)).trans ?_
      refine (x_cI D30_24 M25 (fun z => by cases z) (I25 _ _) rfl rfl (ok_i M25 (I25 _ _) rfl rfl h_a0)).trans (bI_c fun v2 m1 => ?_)
      refine (x_ifeq D30_27).trans (i_c ?_ ?_)
      · refine (x_iconst D30_34 (k := 0) (by decide)).trans ?_
        exact (x_bret D30_35 M30.2.2.1).trans yB0
      · refine (x_iconst D30_30 (k := 1) (by decide)).trans ?_
        refine (x_goto D30_31).trans ?_
        exact (x_bret D30_35 M30.2.2.1).trans yB1
  · refine (x_aload1 D30_8 rfl).trans ?_
    refine (x_iconst D30_9 (k := 1) (by decide)).trans ?_
    refine (x_cI D30_10 M25 (fun z => by cases z) (I25 _ _) rfl rfl (ok_i M25 (I25 _ _) rfl rfl h_a0)).trans (bI_c fun v4 m3 => ?_)
    exact x_bret D30_13 M30.2.2.1
theorem D31_0 : decode (mB 31) 0 = .ok (.aload_n 0, 1) := by decide +kernel
theorem D31_1 : GF 31 1 8 6 0 := ⟨57, false, by decide +kernel, by decide +kernel⟩
theorem D31_4 : decode (mB 31) 4 = .ok (.ireturn, 1) := by decide +kernel
theorem Ta_number_e (d : Nat) (a0 : Nat) (m : eM) (h_a0 : kd a0 = 8) : Ta_number d a0 m = yI (gI m a0 6) m := by
  unfold Ta_number
  refine (x_aload1 D31_0 rfl).trans ?_
  refine ((x_getI D31_1).trans (gd_t h_a0)).trans ?_
  exact x_iret D31_4 M31.2.2.1
theorem D32_0 : decode (mB 32) 0 = .ok (.aload_n 0, 1) := by decide +kernel
theorem D32_1 : decode (mB 32) 1 = .ok (.iload_n 1, 1) := by decide +kernel
theorem D32_2 : CS 32 2 33 0 := ⟨.invokevirtual 72, by decide +kernel, by decide +kernel, by decide +kernel, by decide⟩
theorem D32_5 : BR 32 5 (.ifCond .ne 9) (9) 14 := ⟨by decide +kernel, by decide, by decide⟩
theorem D32_14 : decode (mB 32) 14 = .ok (.aload_n 0, 1) := by decide +kernel
theorem D32_15 : CS 32 15 15 0 := ⟨.invokevirtual 25, by decide +kernel, by decide +kernel, by decide +kernel, by decide⟩
theorem D32_18 : decode (mB 32) 18 = .ok (.iconst 1, 1) := by decide +kernel
theorem D32_19 : decode (mB 32) 19 = .ok (.ireturn, 1) := by decide +kernel
theorem D32_8 : decode (mB 32) 8 = .ok (.aload_n 0, 1) := by decide +kernel
theorem D32_9 : decode (mB 32) 9 = .ok (.iconst 1, 1) := by decide +kernel
theorem D32_10 : CS 32 10 25 0 := ⟨.invokevirtual 68, by decide +kernel, by decide +kernel, by decide +kernel, by decide⟩
theorem D32_13 : decode (mB 32) 13 = .ok (.ireturn, 1) := by decide +kernel
theorem Ta_takeSign_e (d : Nat) (a0 : Nat) (x1 : Int32) (m : eM) (h_a0 : kd a0 = 8) : Ta_takeSign (d + 1) a0 x1 m = bI (Ta_isSign d a0 x1 m) fun v2 m1 => if ¬ v2 = 0 then (bV (Ta_step d a0 m1) fun m3 => yI (1 : Int32) m3) else (bI (Ta_wrong d a0 (1 : Int32) m1) fun v5 m4 => yB v5 m4) := by
  unfold Ta_takeSign
  refine (x_aload1 D32_0 rfl).trans ?_
  refine (x_iload1 D32_1 rfl).trans ?_
  refine (x_cI D32_2 M33 (fun z => by cases z) (I33 _ _) rfl rfl (ok_i M33 (I33 _ _) rfl rfl h_a0)).trans (bI_c fun v2 m1 => ?_)
  refine (x_ifne D32_5).trans (i_c ?_ ?_)
  · refine (x_aload1 D32_14 rfl).trans ?_
    refine (x_cV D32_15 M15  (I15 _) rfl rfl (ok_i M15 (I15 _) rfl rfl h_a0)).trans (bV_c fun m3 => ?_)
    refine (x_iconst D32_18 (k := 1) (by decide)).trans ?_
    exact (x_bret D32_19 M32.2.2.1).trans yB1
  · refine (x_aload1 D32_8 rfl).trans ?_
    refine (x_iconst D32_9 (k := 1) (by decide)).trans ?_
    refine (x_cI D32_10 M25 (fun z => by cases z) (I25 _ _) rfl rfl (ok_i M25 (I25 _ _) rfl rfl h_a0)).trans (bI_c fun v5 m4 => ?_)
    exact x_bret D32_13 M32.2.2.1
theorem D33_0 : decode (mB 33) 0 = .ok (.aload_n 0, 1) := by decide +kernel
theorem D33_1 : GF 33 1 8 3 0 := ⟨43, false, by decide +kernel, by decide +kernel⟩
theorem D33_4 : decode (mB 33) 4 = .ok (.iconst 4, 1) := by decide +kernel
theorem D33_5 : BR 33 5 (.if_icmp .ne 15) (15) 20 := ⟨by decide +kernel, by decide, by decide⟩
theorem D33_20 : decode (mB 33) 20 = .ok (.iconst 0, 1) := by decide +kernel
theorem D33_21 : decode (mB 33) 21 = .ok (.ireturn, 1) := by decide +kernel
theorem D33_8 : decode (mB 33) 8 = .ok (.aload_n 0, 1) := by decide +kernel
theorem D33_9 : GF 33 9 8 5 4 := ⟨35, false, by decide +kernel, by decide +kernel⟩
theorem D33_12 : decode (mB 33) 12 = .ok (.iload_n 1, 1) := by decide +kernel
theorem D33_13 : BR 33 13 (.if_icmp .ne 7) (7) 20 := ⟨by decide +kernel, by decide, by decide⟩
theorem D33_16 : decode (mB 33) 16 = .ok (.iconst 1, 1) := by decide +kernel
theorem D33_17 : BR 33 17 (.goto 4) (4) 21 := ⟨by decide +kernel, by decide, by decide⟩
theorem Ta_isSign_e (d : Nat) (a0 : Nat) (x1 : Int32) (m : eM) (h_a0 : kd a0 = 8) : Ta_isSign d a0 x1 m = if ¬ (gI m a0 3) = (4 : Int32) then (yI (0 : Int32) m) else (if ¬ (gI m a0 5) = x1 then (yI (0 : Int32) m) else (yI (1 : Int32) m)) := by
  unfold Ta_isSign
  refine (x_aload1 D33_0 rfl).trans ?_
  refine ((x_getI D33_1).trans (gd_t h_a0)).trans ?_
  refine (x_iconst D33_4 (k := 4) (by decide)).trans ?_
  refine (x_cne D33_5).trans (i_c ?_ ?_)
  · refine (x_iconst D33_20 (k := 0) (by decide)).trans ?_
    exact (x_bret D33_21 M33.2.2.1).trans yB0
  · refine (x_aload1 D33_8 rfl).trans ?_
    refine ((x_getC D33_9).trans (gd_t h_a0)).trans ?_
    refine (x_iload1 D33_12 rfl).trans ?_
    refine (x_cne D33_13).trans (i_c ?_ ?_)
    · refine (x_iconst D33_20 (k := 0) (by decide)).trans ?_
      exact (x_bret D33_21 M33.2.2.1).trans yB0
    · refine (x_iconst D33_16 (k := 1) (by decide)).trans ?_
      refine (x_goto D33_17).trans ?_
      exact (x_bret D33_21 M33.2.2.1).trans yB1
theorem D36_0 : decode (mB 36) 0 = .ok (.aload_n 0, 1) := by decide +kernel
theorem D36_1 : decode (mB 36) 1 = .ok (.lload_n 1, 1) := by decide +kernel
theorem D36_2 : CS 36 2 22 0 := ⟨.invokevirtual 64, by decide +kernel, by decide +kernel, by decide +kernel, by decide⟩
theorem D36_5 : BR 36 5 (.ifCond .ne 9) (9) 14 := ⟨by decide +kernel, by decide, by decide⟩
theorem D36_14 : decode (mB 36) 14 = .ok (.aload_n 0, 1) := by decide +kernel
theorem D36_15 : CS 36 15 15 0 := ⟨.invokevirtual 25, by decide +kernel, by decide +kernel, by decide +kernel, by decide⟩
theorem D36_18 : decode (mB 36) 18 = .ok (.iconst 1, 1) := by decide +kernel
theorem D36_19 : decode (mB 36) 19 = .ok (.ireturn, 1) := by decide +kernel
theorem D36_8 : decode (mB 36) 8 = .ok (.aload_n 0, 1) := by decide +kernel
theorem D36_9 : decode (mB 36) 9 = .ok (.iconst 1, 1) := by decide +kernel
theorem D36_10 : CS 36 10 25 0 := ⟨.invokevirtual 68, by decide +kernel, by decide +kernel, by decide +kernel, by decide⟩
theorem D36_13 : decode (mB 36) 13 = .ok (.ireturn, 1) := by decide +kernel
theorem Ta_takeWord_e (d : Nat) (a0 : Nat) (y1 : Int64) (m : eM) (h_a0 : kd a0 = 8) : Ta_takeWord (d + 1) a0 y1 m = bI (Ta_isWord d a0 y1 m) fun v2 m1 => if ¬ v2 = 0 then (bV (Ta_step d a0 m1) fun m3 => yI (1 : Int32) m3) else (bI (Ta_wrong d a0 (1 : Int32) m1) fun v5 m4 => yB v5 m4) := by
  unfold Ta_takeWord
  refine (x_aload1 D36_0 rfl).trans ?_
  refine (x_lload1 D36_1 rfl).trans ?_
  refine (x_cI D36_2 M22 (fun z => by cases z) (I22 _ _) rfl rfl (ok_i M22 (I22 _ _) rfl rfl h_a0)).trans (bI_c fun v2 m1 => ?_)
  refine (x_ifne D36_5).trans (i_c ?_ ?_)
  · refine (x_aload1 D36_14 rfl).trans ?_
    refine (x_cV D36_15 M15  (I15 _) rfl rfl (ok_i M15 (I15 _) rfl rfl h_a0)).trans (bV_c fun m3 => ?_)
    refine (x_iconst D36_18 (k := 1) (by decide)).trans ?_
    exact (x_bret D36_19 M36.2.2.1).trans yB1
  · refine (x_aload1 D36_8 rfl).trans ?_
    refine (x_iconst D36_9 (k := 1) (by decide)).trans ?_
    refine (x_cI D36_10 M25 (fun z => by cases z) (I25 _ _) rfl rfl (ok_i M25 (I25 _ _) rfl rfl h_a0)).trans (bI_c fun v5 m4 => ?_)
    exact x_bret D36_13 M36.2.2.1
theorem D61_0 : decode (mB 61) 0 = .ok (.aload_n 0, 1) := by decide +kernel
theorem D61_1 : decode (mB 61) 1 = .ok (.iconst 0, 1) := by decide +kernel
theorem D61_2 : PF 61 2 8 1 0 := ⟨13, false, by decide +kernel, by decide +kernel, by decide +kernel, by decide⟩
theorem D61_5 : decode (mB 61) 5 = .ok (.return_, 1) := by decide +kernel
theorem Ta_clear_e (d : Nat) (a0 : Nat) (m : eM) (h_a0 : kd a0 = 8) : Ta_clear d a0 m = mI m a0 1 (0 : Int32) fun m1 => yV m1 := by
  unfold Ta_clear
  refine (x_aload1 D61_0 rfl).trans ?_
  refine (x_iconst D61_1 (k := 0) (by decide)).trans ?_
  refine (x_putI D61_2 h_a0).trans ?_
  refine mI_i (fun m1 => X d 61 5 [.ref a0] [] m1) _ ?_
  intro m1
  exact x_vret D61_5 M61.2.2.1
theorem D65_0 : decode (mB 65) 0 = .ok (.aload_n 0, 1) := by decide +kernel
theorem D65_1 : GF 65 1 8 8 0 := ⟨22, false, by decide +kernel, by decide +kernel⟩
theorem D65_4 : decode (mB 65) 4 = .ok (.ireturn, 1) := by decide +kernel
theorem Ta_fault_e (d : Nat) (a0 : Nat) (m : eM) (h_a0 : kd a0 = 8) : Ta_fault d a0 m = yI (gI m a0 8) m := by
  unfold Ta_fault
  refine (x_aload1 D65_0 rfl).trans ?_
  refine ((x_getI D65_1).trans (gd_t h_a0)).trans ?_
  exact x_iret D65_4 M65.2.2.1
theorem D77_0 : decode (mB 77) 0 = .ok (.aload_n 0, 1) := by decide +kernel
theorem D77_1 : GF 77 1 8 3 0 := ⟨43, false, by decide +kernel, by decide +kernel⟩
theorem D77_4 : BR 77 4 (.ifCond .eq 11) (11) 15 := ⟨by decide +kernel, by decide, by decide⟩
theorem D77_15 : decode (mB 77) 15 = .ok (.iconst 1, 1) := by decide +kernel
theorem D77_16 : BR 77 16 (.goto 4) (4) 20 := ⟨by decide +kernel, by decide, by decide⟩
theorem D77_20 : decode (mB 77) 20 = .ok (.ireturn, 1) := by decide +kernel
theorem D77_7 : decode (mB 77) 7 = .ok (.aload_n 0, 1) := by decide +kernel
theorem D77_8 : decode (mB 77) 8 = .ok (.iconst 1, 1) := by decide +kernel
theorem D77_9 : CS 77 9 25 0 := ⟨.invokevirtual 68, by decide +kernel, by decide +kernel, by decide +kernel, by decide⟩
theorem D77_12 : BR 77 12 (.ifCond .eq 7) (7) 19 := ⟨by decide +kernel, by decide, by decide⟩
theorem D77_19 : decode (mB 77) 19 = .ok (.iconst 0, 1) := by decide +kernel
theorem Ta_ends_e (d : Nat) (a0 : Nat) (m : eM) (h_a0 : kd a0 = 8) : Ta_ends (d + 1) a0 m = if (gI m a0 3) = 0 then (yI (1 : Int32) m) else (bI (Ta_wrong d a0 (1 : Int32) m) fun v2 m1 => if v2 = 0 then (yI (0 : Int32) m1) else (yI (1 : Int32) m1)) := by
  unfold Ta_ends
  refine (x_aload1 D77_0 rfl).trans ?_
  refine ((x_getI D77_1).trans (gd_t h_a0)).trans ?_
  refine (x_ifeq D77_4).trans (i_c ?_ ?_)
  · refine (x_iconst D77_15 (k := 1) (by decide)).trans ?_
    refine (x_goto D77_16).trans ?_
    exact (x_bret D77_20 M77.2.2.1).trans yB1
  · refine (x_aload1 D77_7 rfl).trans ?_
    refine (x_iconst D77_8 (k := 1) (by decide)).trans ?_
    refine (x_cI D77_9 M25 (fun z => by cases z) (I25 _ _) rfl rfl (ok_i M25 (I25 _ _) rfl rfl h_a0)).trans (bI_c fun v2 m1 => ?_)
    refine (x_ifeq D77_12).trans (i_c ?_ ?_)
    · refine (x_iconst D77_19 (k := 0) (by decide)).trans ?_
      exact (x_bret D77_20 M77.2.2.1).trans yB0
    · refine (x_iconst D77_15 (k := 1) (by decide)).trans ?_
      refine (x_goto D77_16).trans ?_
      exact (x_bret D77_20 M77.2.2.1).trans yB1
theorem D119_0 : decode (mB 119) 0 = .ok (.lload_n 0, 1) := by decide +kernel
theorem D119_1 : decode (mB 119) 1 = .ok (.lload_n 0, 1) := by decide +kernel
theorem D119_2 : decode (mB 119) 2 = .ok (.iconst 1, 1) := by decide +kernel
theorem D119_3 : decode (mB 119) 3 = .ok (.lushr, 1) := by decide +kernel
theorem R119_4 : lRes (mC 119) 314 = some (6148914691236517205) := by decide +kernel
theorem D119_4 : decode (mB 119) 4 = .ok (.ldc2_w 314, 3) := by decide +kernel
theorem D119_7 : decode (mB 119) 7 = .ok (.land, 1) := by decide +kernel
theorem D119_8 : decode (mB 119) 8 = .ok (.lsub, 1) := by decide +kernel
theorem D119_9 : decode (mB 119) 9 = .ok (.lstore_n 0, 1) := by decide +kernel
theorem D119_10 : decode (mB 119) 10 = .ok (.lload_n 0, 1) := by decide +kernel
theorem R119_11 : lRes (mC 119) 316 = some (3689348814741910323) := by decide +kernel
theorem D119_11 : decode (mB 119) 11 = .ok (.ldc2_w 316, 3) := by decide +kernel
theorem D119_14 : decode (mB 119) 14 = .ok (.land, 1) := by decide +kernel
theorem D119_15 : decode (mB 119) 15 = .ok (.lload_n 0, 1) := by decide +kernel
theorem D119_16 : decode (mB 119) 16 = .ok (.iconst 2, 1) := by decide +kernel
theorem D119_17 : decode (mB 119) 17 = .ok (.lushr, 1) := by decide +kernel
theorem R119_18 : lRes (mC 119) 316 = some (3689348814741910323) := by decide +kernel
theorem D119_18 : decode (mB 119) 18 = .ok (.ldc2_w 316, 3) := by decide +kernel
theorem D119_21 : decode (mB 119) 21 = .ok (.land, 1) := by decide +kernel
theorem D119_22 : decode (mB 119) 22 = .ok (.ladd, 1) := by decide +kernel
theorem D119_23 : decode (mB 119) 23 = .ok (.lstore_n 0, 1) := by decide +kernel
theorem D119_24 : decode (mB 119) 24 = .ok (.lload_n 0, 1) := by decide +kernel
theorem D119_25 : decode (mB 119) 25 = .ok (.lload_n 0, 1) := by decide +kernel
theorem D119_26 : decode (mB 119) 26 = .ok (.iconst 4, 1) := by decide +kernel
theorem D119_27 : decode (mB 119) 27 = .ok (.lushr, 1) := by decide +kernel
theorem D119_28 : decode (mB 119) 28 = .ok (.ladd, 1) := by decide +kernel
theorem R119_29 : lRes (mC 119) 318 = some (1085102592571150095) := by decide +kernel
theorem D119_29 : decode (mB 119) 29 = .ok (.ldc2_w 318, 3) := by decide +kernel
theorem D119_32 : decode (mB 119) 32 = .ok (.land, 1) := by decide +kernel
theorem D119_33 : decode (mB 119) 33 = .ok (.lstore_n 0, 1) := by decide +kernel
theorem D119_34 : decode (mB 119) 34 = .ok (.lload_n 0, 1) := by decide +kernel
theorem D119_35 : decode (mB 119) 35 = .ok (.lload_n 0, 1) := by decide +kernel
theorem D119_36 : decode (mB 119) 36 = .ok (.bipush 8, 2) := by decide +kernel
theorem D119_38 : decode (mB 119) 38 = .ok (.lushr, 1) := by decide +kernel
theorem D119_39 : decode (mB 119) 39 = .ok (.ladd, 1) := by decide +kernel
theorem D119_40 : decode (mB 119) 40 = .ok (.lstore_n 0, 1) := by decide +kernel
theorem D119_41 : decode (mB 119) 41 = .ok (.lload_n 0, 1) := by decide +kernel
theorem D119_42 : decode (mB 119) 42 = .ok (.lload_n 0, 1) := by decide +kernel
theorem D119_43 : decode (mB 119) 43 = .ok (.bipush 16, 2) := by decide +kernel
theorem D119_45 : decode (mB 119) 45 = .ok (.lushr, 1) := by decide +kernel
theorem D119_46 : decode (mB 119) 46 = .ok (.ladd, 1) := by decide +kernel
theorem D119_47 : decode (mB 119) 47 = .ok (.lstore_n 0, 1) := by decide +kernel
theorem D119_48 : decode (mB 119) 48 = .ok (.lload_n 0, 1) := by decide +kernel
theorem D119_49 : decode (mB 119) 49 = .ok (.lload_n 0, 1) := by decide +kernel
theorem D119_50 : decode (mB 119) 50 = .ok (.bipush 32, 2) := by decide +kernel
theorem D119_52 : decode (mB 119) 52 = .ok (.lushr, 1) := by decide +kernel
theorem D119_53 : decode (mB 119) 53 = .ok (.ladd, 1) := by decide +kernel
theorem D119_54 : decode (mB 119) 54 = .ok (.lstore_n 0, 1) := by decide +kernel
theorem D119_55 : decode (mB 119) 55 = .ok (.lload_n 0, 1) := by decide +kernel
theorem D119_56 : decode (mB 119) 56 = .ok (.l2i, 1) := by decide +kernel
theorem D119_57 : decode (mB 119) 57 = .ok (.bipush 127, 2) := by decide +kernel
theorem D119_59 : decode (mB 119) 59 = .ok (.iand, 1) := by decide +kernel
theorem D119_60 : decode (mB 119) 60 = .ok (.ireturn, 1) := by decide +kernel
theorem Lg_bitCount_e (d : Nat) (y0 : Int64) (m : eM)  : Lg_bitCount d y0 m = lL (y0 - (((y0.toUInt64 >>> ((1 : Int32).toInt64.toUInt64 &&& Int64.toUInt64 63)).toInt64) &&& (6148914691236517205 : Int64))) fun v1 => lL ((v1 &&& (3689348814741910323 : Int64)) + (((v1.toUInt64 >>> ((2 : Int32).toInt64.toUInt64 &&& Int64.toUInt64 63)).toInt64) &&& (3689348814741910323 : Int64))) fun v2 => lL ((v2 + ((v2.toUInt64 >>> ((4 : Int32).toInt64.toUInt64 &&& Int64.toUInt64 63)).toInt64)) &&& (1085102592571150095 : Int64)) fun v3 => lL (v3 + ((v3.toUInt64 >>> ((8 : Int32).toInt64.toUInt64 &&& Int64.toUInt64 63)).toInt64)) fun v4 => lL (v4 + ((v4.toUInt64 >>> ((16 : Int32).toInt64.toUInt64 &&& Int64.toUInt64 63)).toInt64)) fun v5 => lL (v5 + ((v5.toUInt64 >>> ((32 : Int32).toInt64.toUInt64 &&& Int64.toUInt64 63)).toInt64)) fun v6 => yI (v6.toInt32 &&& (127 : Int32)) m := by
  unfold Lg_bitCount
  refine (x_lload1 D119_0 rfl).trans ?_
  refine (x_lload1 D119_1 rfl).trans ?_
  refine (x_iconst D119_2 (k := 1) (by decide)).trans ?_
  refine (x_lushr D119_3).trans ?_
  refine (x_ldc2 D119_4 R119_4).trans ?_
  refine (x_land D119_7).trans ?_
  refine (x_lsub D119_8).trans ?_
  refine (x_lstore1 D119_9 (ls' := [.long (y0 - (((y0.toUInt64 >>> ((1 : Int32).toInt64.toUInt64 &&& Int64.toUInt64 63)).toInt64) &&& (6148914691236517205 : Int64))), eU]) rfl rfl).trans ?_
  refine lL_i (fun v1 => X d 119 10 [.long v1, eU] [] m) _ ?_ _
  intro v1
  refine (x_lload1 D119_10 rfl).trans ?_
  refine (x_ldc2 D119_11 R119_11).trans ?_
  refine (x_land D119_14).trans ?_
  refine (x_lload1 D119_15 rfl).trans ?_
  refine (x_iconst D119_16 (k := 2) (by decide)).trans ?_
  refine (x_lushr D119_17).trans ?_
  refine (x_ldc2 D119_18 R119_18).trans ?_
  refine (x_land D119_21).trans ?_
  refine (x_ladd D119_22).trans ?_
  refine (x_lstore1 D119_23 (ls' := [.long ((v1 &&& (3689348814741910323 : Int64)) + (((v1.toUInt64 >>> ((2 : Int32).toInt64.toUInt64 &&& Int64.toUInt64 63)).toInt64) &&& (3689348814741910323 : Int64))), eU]) rfl rfl).trans ?_
  refine lL_i (fun v2 => X d 119 24 [.long v2, eU] [] m) _ ?_ _
  intro v2
  refine (x_lload1 D119_24 rfl).trans ?_
  refine (x_lload1 D119_25 rfl).trans ?_
  refine (x_iconst D119_26 (k := 4) (by decide)).trans ?_
  refine (x_lushr D119_27).trans ?_
  refine (x_ladd D119_28).trans ?_
  refine (x_ldc2 D119_29 R119_29).trans ?_
  refine (x_land D119_32).trans ?_
  refine (x_lstore1 D119_33 (ls' := [.long ((v2 + ((v2.toUInt64 >>> ((4 : Int32).toInt64.toUInt64 &&& Int64.toUInt64 63)).toInt64)) &&& (1085102592571150095 : Int64)), eU]) rfl rfl).trans ?_
  refine lL_i (fun v3 => X d 119 34 [.long v3, eU] [] m) _ ?_ _
  intro v3
  refine (x_lload1 D119_34 rfl).trans ?_
  refine (x_lload1 D119_35 rfl).trans ?_
  refine (x_bipush D119_36 (k := 8) (by decide)).trans ?_
  refine (x_lushr D119_38).trans ?_
  refine (x_ladd D119_39).trans ?_
  refine (x_lstore1 D119_40 (ls' := [.long (v3 + ((v3.toUInt64 >>> ((8 : Int32).toInt64.toUInt64 &&& Int64.toUInt64 63)).toInt64)), eU]) rfl rfl).trans ?_
  refine lL_i (fun v4 => X d 119 41 [.long v4, eU] [] m) _ ?_ _
  intro v4
  refine (x_lload1 D119_41 rfl).trans ?_
  refine (x_lload1 D119_42 rfl).trans ?_
  refine (x_bipush D119_43 (k := 16) (by decide)).trans ?_
  refine (x_lushr D119_45).trans ?_
  refine (x_ladd D119_46).trans ?_
  refine (x_lstore1 D119_47 (ls' := [.long (v4 + ((v4.toUInt64 >>> ((16 : Int32).toInt64.toUInt64 &&& Int64.toUInt64 63)).toInt64)), eU]) rfl rfl).trans ?_
  refine lL_i (fun v5 => X d 119 48 [.long v5, eU] [] m) _ ?_ _
  intro v5
  refine (x_lload1 D119_48 rfl).trans ?_
  refine (x_lload1 D119_49 rfl).trans ?_
  refine (x_bipush D119_50 (k := 32) (by decide)).trans ?_
  refine (x_lushr D119_52).trans ?_
  refine (x_ladd D119_53).trans ?_
  refine (x_lstore1 D119_54 (ls' := [.long (v5 + ((v5.toUInt64 >>> ((32 : Int32).toInt64.toUInt64 &&& Int64.toUInt64 63)).toInt64)), eU]) rfl rfl).trans ?_
  refine lL_i (fun v6 => X d 119 55 [.long v6, eU] [] m) _ ?_ _
  intro v6
  refine (x_lload1 D119_55 rfl).trans ?_
  refine (x_l2i D119_56).trans ?_
  refine (x_bipush D119_57 (k := 127) (by decide)).trans ?_
  refine (x_iand D119_59).trans ?_
  exact x_iret D119_60 M119.2.2.1
theorem D132_0 : decode (mB 132) 0 = .ok (.iload_n 0, 1) := by decide +kernel
theorem D132_1 : decode (mB 132) 1 = .ok (.iconst (-1), 1) := by decide +kernel
theorem D132_2 : decode (mB 132) 2 = .ok (.ixor, 1) := by decide +kernel
theorem D132_3 : decode (mB 132) 3 = .ok (.iload_n 0, 1) := by decide +kernel
theorem D132_4 : decode (mB 132) 4 = .ok (.iconst 1, 1) := by decide +kernel
theorem D132_5 : decode (mB 132) 5 = .ok (.isub, 1) := by decide +kernel
theorem D132_6 : decode (mB 132) 6 = .ok (.iand, 1) := by decide +kernel
theorem D132_7 : decode (mB 132) 7 = .ok (.istore_n 0, 1) := by decide +kernel
theorem D132_8 : decode (mB 132) 8 = .ok (.iload_n 0, 1) := by decide +kernel
theorem D132_9 : BR 132 9 (.ifCond .gt 8) (8) 17 := ⟨by decide +kernel, by decide, by decide⟩
theorem D132_17 : decode (mB 132) 17 = .ok (.iconst 1, 1) := by decide +kernel
theorem D132_18 : decode (mB 132) 18 = .ok (.istore_n 1, 1) := by decide +kernel
theorem D132_19 : decode (mB 132) 19 = .ok (.iload_n 0, 1) := by decide +kernel
theorem R132_20 : iRes (mC 132) 264 = some (65536) := by decide +kernel
theorem D132_20 : decode (mB 132) 20 = .ok (.ldc_w 264, 3) := by decide +kernel
theorem D132_23 : BR 132 23 (.if_icmp .le 11) (11) 34 := ⟨by decide +kernel, by decide, by decide⟩
theorem D132_26 : decode (mB 132) 26 = .ok (.iinc 1 16, 3) := by decide +kernel
theorem D132_29 : decode (mB 132) 29 = .ok (.iload_n 0, 1) := by decide +kernel
theorem D132_30 : decode (mB 132) 30 = .ok (.bipush 16, 2) := by decide +kernel
theorem D132_32 : decode (mB 132) 32 = .ok (.iushr, 1) := by decide +kernel
theorem D132_33 : decode (mB 132) 33 = .ok (.istore_n 0, 1) := by decide +kernel
theorem D132_12 : decode (mB 132) 12 = .ok (.iload_n 0, 1) := by decide +kernel
theorem D132_13 : decode (mB 132) 13 = .ok (.bipush 32, 2) := by decide +kernel
theorem D132_15 : decode (mB 132) 15 = .ok (.iand, 1) := by decide +kernel
theorem D132_16 : decode (mB 132) 16 = .ok (.ireturn, 1) := by decide +kernel
theorem D132_34 : decode (mB 132) 34 = .ok (.iload_n 0, 1) := by decide +kernel
theorem D132_35 : decode (mB 132) 35 = .ok (.sipush 256, 3) := by decide +kernel
theorem D132_38 : BR 132 38 (.if_icmp .le 11) (11) 49 := ⟨by decide +kernel, by decide, by decide⟩
theorem D132_49 : decode (mB 132) 49 = .ok (.iload_n 0, 1) := by decide +kernel
theorem D132_50 : decode (mB 132) 50 = .ok (.bipush 16, 2) := by decide +kernel
theorem D132_52 : BR 132 52 (.if_icmp .le 10) (10) 62 := ⟨by decide +kernel, by decide, by decide⟩
theorem D132_55 : decode (mB 132) 55 = .ok (.iinc 1 4, 3) := by decide +kernel
theorem D132_58 : decode (mB 132) 58 = .ok (.iload_n 0, 1) := by decide +kernel
theorem D132_59 : decode (mB 132) 59 = .ok (.iconst 4, 1) := by decide +kernel
theorem D132_60 : decode (mB 132) 60 = .ok (.iushr, 1) := by decide +kernel
theorem D132_61 : decode (mB 132) 61 = .ok (.istore_n 0, 1) := by decide +kernel
theorem D132_41 : decode (mB 132) 41 = .ok (.iinc 1 8, 3) := by decide +kernel
theorem D132_44 : decode (mB 132) 44 = .ok (.iload_n 0, 1) := by decide +kernel
theorem D132_45 : decode (mB 132) 45 = .ok (.bipush 8, 2) := by decide +kernel
theorem D132_47 : decode (mB 132) 47 = .ok (.iushr, 1) := by decide +kernel
theorem D132_48 : decode (mB 132) 48 = .ok (.istore_n 0, 1) := by decide +kernel
theorem D132_62 : decode (mB 132) 62 = .ok (.iload_n 0, 1) := by decide +kernel
theorem D132_63 : decode (mB 132) 63 = .ok (.iconst 4, 1) := by decide +kernel
theorem D132_64 : BR 132 64 (.if_icmp .le 10) (10) 74 := ⟨by decide +kernel, by decide, by decide⟩
theorem D132_74 : decode (mB 132) 74 = .ok (.iload_n 1, 1) := by decide +kernel
theorem D132_75 : decode (mB 132) 75 = .ok (.iload_n 0, 1) := by decide +kernel
theorem D132_76 : decode (mB 132) 76 = .ok (.iconst 1, 1) := by decide +kernel
theorem D132_77 : decode (mB 132) 77 = .ok (.iushr, 1) := by decide +kernel
theorem D132_78 : decode (mB 132) 78 = .ok (.iadd, 1) := by decide +kernel
theorem D132_79 : decode (mB 132) 79 = .ok (.ireturn, 1) := by decide +kernel
theorem D132_67 : decode (mB 132) 67 = .ok (.iinc 1 2, 3) := by decide +kernel
theorem D132_70 : decode (mB 132) 70 = .ok (.iload_n 0, 1) := by decide +kernel
theorem D132_71 : decode (mB 132) 71 = .ok (.iconst 2, 1) := by decide +kernel
theorem D132_72 : decode (mB 132) 72 = .ok (.iushr, 1) := by decide +kernel
theorem D132_73 : decode (mB 132) 73 = .ok (.istore_n 0, 1) := by decide +kernel
theorem In_numberOfTrailingZeros_e (d : Nat) (x0 : Int32) (m : eM)  : In_numberOfTrailingZeros d x0 m = lI ((x0 ^^^ (-1 : Int32)) &&& (x0 - (1 : Int32))) fun v1 => if 0 < v1 then (if v1 ≤ (65536 : Int32) then (In_numberOfTrailingZeros_34 d v1 (1 : Int32) m) else (lI ((v1.toUInt32 >>> ((16 : Int32).toUInt32 &&& Int32.toUInt32 31)).toInt32) fun v2 => In_numberOfTrailingZeros_34 d v2 ((1 : Int32) + (16 : Int32)) m)) else (yI (v1 &&& (32 : Int32)) m) := by
  unfold In_numberOfTrailingZeros
  refine (x_iload1 D132_0 rfl).trans ?_
  refine (x_iconst D132_1 (k := -1) (by decide)).trans ?_
  refine (x_ixor D132_2).trans ?_
  refine (x_iload1 D132_3 rfl).trans ?_
  refine (x_iconst D132_4 (k := 1) (by decide)).trans ?_
  refine (x_isub D132_5).trans ?_
  refine (x_iand D132_6).trans ?_
  refine (x_istore1 D132_7 (ls' := [.int ((x0 ^^^ (-1 : Int32)) &&& (x0 - (1 : Int32))), eU]) rfl rfl).trans ?_
  refine lI_i (fun v1 => X d 132 8 [.int v1, eU] [] m) _ ?_ _
  intro v1
  refine (x_iload1 D132_8 rfl).trans ?_
  refine (x_ifgt D132_9).trans (i_c ?_ ?_)
  · refine (x_iconst D132_17 (k := 1) (by decide)).trans ?_
    refine (x_istore1 D132_18 (ls' := [.int v1, .int (1 : Int32)]) rfl rfl).trans ?_
    refine (x_iload1 D132_19 rfl).trans ?_
    refine (x_ldcw D132_20 R132_20).trans ?_
    refine (x_cle D132_23).trans (i_c ?_ ?_)
    · rfl
    · refine (x_iinc D132_26 rfl (k := 16) (by decide) (ls' := [.int v1, .int ((1 : Int32) + (16 : Int32))]) rfl).trans ?_
      refine (x_iload1 D132_29 rfl).trans ?_
      refine (x_bipush D132_30 (k := 16) (by decide)).trans ?_
      refine (x_iushr D132_32).trans ?_
      refine (x_istore1 D132_33 (ls' := [.int ((v1.toUInt32 >>> ((16 : Int32).toUInt32 &&& Int32.toUInt32 31)).toInt32), .int ((1 : Int32) + (16 : Int32))]) rfl rfl).trans ?_
      refine lI_i (fun v2 => X d 132 34 [.int v2, .int ((1 : Int32) + (16 : Int32))] [] m) _ ?_ _
      intro v2
      rfl
  · refine (x_iload1 D132_12 rfl).trans ?_
    refine (x_bipush D132_13 (k := 32) (by decide)).trans ?_
    refine (x_iand D132_15).trans ?_
    exact x_iret D132_16 M132.2.2.1
theorem In_numberOfTrailingZeros_34_e (d : Nat) (x0 : Int32) (x1 : Int32) (m : eM)  : In_numberOfTrailingZeros_34 d x0 x1 m = if x0 ≤ (256 : Int32) then (if x0 ≤ (16 : Int32) then (In_numberOfTrailingZeros_62 d x0 x1 m) else (lI ((x0.toUInt32 >>> ((4 : Int32).toUInt32 &&& Int32.toUInt32 31)).toInt32) fun v1 => In_numberOfTrailingZeros_62 d v1 (x1 + (4 : Int32)) m)) else (lI ((x0.toUInt32 >>> ((8 : Int32).toUInt32 &&& Int32.toUInt32 31)).toInt32) fun v2 => if v2 ≤ (16 : Int32) then (In_numberOfTrailingZeros_62 d v2 (x1 + (8 : Int32)) m) else (lI ((v2.toUInt32 >>> ((4 : Int32).toUInt32 &&& Int32.toUInt32 31)).toInt32) fun v3 => In_numberOfTrailingZeros_62 d v3 ((x1 + (8 : Int32)) + (4 : Int32)) m)) := by
  unfold In_numberOfTrailingZeros_34
  refine (x_iload1 D132_34 rfl).trans ?_
  refine (x_sipush D132_35 (k := 256) (by decide)).trans ?_
  refine (x_cle D132_38).trans (i_c ?_ ?_)
  · refine (x_iload1 D132_49 rfl).trans ?_
    refine (x_bipush D132_50 (k := 16) (by decide)).trans ?_
    refine (x_cle D132_52).trans (i_c ?_ ?_)
    · rfl
    · refine (x_iinc D132_55 rfl (k := 4) (by decide) (ls' := [.int x0, .int (x1 + (4 : Int32))]) rfl).trans ?_
      refine (x_iload1 D132_58 rfl).trans ?_
      refine (x_iconst D132_59 (k := 4) (by decide)).trans ?_
      refine (x_iushr D132_60).trans ?_
      refine (x_istore1 D132_61 (ls' := [.int ((x0.toUInt32 >>> ((4 : Int32).toUInt32 &&& Int32.toUInt32 31)).toInt32), .int (x1 + (4 : Int32))]) rfl rfl).trans ?_
      refine lI_i (fun v1 => X d 132 62 [.int v1, .int (x1 + (4 : Int32))] [] m) _ ?_ _
      intro v1
      rfl
  · refine (x_iinc D132_41 rfl (k := 8) (by decide) (ls' := [.int x0, .int (x1 + (8 : Int32))]) rfl).trans ?_
    refine (x_iload1 D132_44 rfl).trans ?_
    refine (x_bipush D132_45 (k := 8) (by decide)).trans ?_
    refine (x_iushr D132_47).trans ?_
    refine (x_istore1 D132_48 (ls' := [.int ((x0.toUInt32 >>> ((8 : Int32).toUInt32 &&& Int32.toUInt32 31)).toInt32), .int (x1 + (8 : Int32))]) rfl rfl).trans ?_
    refine lI_i (fun v2 => X d 132 49 [.int v2, .int (x1 + (8 : Int32))] [] m) _ ?_ _
    intro v2
    refine (x_iload1 D132_49 rfl).trans ?_
    refine (x_bipush D132_50 (k := 16) (by decide)).trans ?_
    refine (x_cle D132_52).trans (i_c ?_ ?_)
    · rfl
    · refine (x_iinc D132_55 rfl (k := 4) (by decide) (ls' := [.int v2, .int ((x1 + (8 : Int32)) + (4 : Int32))]) rfl).trans ?_
      refine (x_iload1 D132_58 rfl).trans ?_
      refine (x_iconst D132_59 (k := 4) (by decide)).trans ?_
      refine (x_iushr D132_60).trans ?_
      refine (x_istore1 D132_61 (ls' := [.int ((v2.toUInt32 >>> ((4 : Int32).toUInt32 &&& Int32.toUInt32 31)).toInt32), .int ((x1 + (8 : Int32)) + (4 : Int32))]) rfl rfl).trans ?_
      refine lI_i (fun v3 => X d 132 62 [.int v3, .int ((x1 + (8 : Int32)) + (4 : Int32))] [] m) _ ?_ _
      intro v3
      rfl
theorem In_numberOfTrailingZeros_62_e (d : Nat) (x0 : Int32) (x1 : Int32) (m : eM)  : In_numberOfTrailingZeros_62 d x0 x1 m = if x0 ≤ (4 : Int32) then (yI (x1 + ((x0.toUInt32 >>> ((1 : Int32).toUInt32 &&& Int32.toUInt32 31)).toInt32)) m) else (lI ((x0.toUInt32 >>> ((2 : Int32).toUInt32 &&& Int32.toUInt32 31)).toInt32) fun v1 => yI ((x1 + (2 : Int32)) + ((v1.toUInt32 >>> ((1 : Int32).toUInt32 &&& Int32.toUInt32 31)).toInt32)) m) := by
  unfold In_numberOfTrailingZeros_62
  refine (x_iload1 D132_62 rfl).trans ?_
  refine (x_iconst D132_63 (k := 4) (by decide)).trans ?_
  refine (x_cle D132_64).trans (i_c ?_ ?_)
  · refine (x_iload1 D132_74 rfl).trans ?_
    refine (x_iload1 D132_75 rfl).trans ?_
    refine (x_iconst D132_76 (k := 1) (by decide)).trans ?_
    refine (x_iushr D132_77).trans ?_
    refine (x_iadd D132_78).trans ?_
    exact x_iret D132_79 M132.2.2.1
  · refine (x_iinc D132_67 rfl (k := 2) (by decide) (ls' := [.int x0, .int (x1 + (2 : Int32))]) rfl).trans ?_
    refine (x_iload1 D132_70 rfl).trans ?_
    refine (x_iconst D132_71 (k := 2) (by decide)).trans ?_
    refine (x_iushr D132_72).trans ?_
    refine (x_istore1 D132_73 (ls' := [.int ((x0.toUInt32 >>> ((2 : Int32).toUInt32 &&& Int32.toUInt32 31)).toInt32), .int (x1 + (2 : Int32))]) rfl rfl).trans ?_
    refine lI_i (fun v1 => X d 132 74 [.int v1, .int (x1 + (2 : Int32))] [] m) _ ?_ _
    intro v1
    refine (x_iload1 D132_74 rfl).trans ?_
    refine (x_iload1 D132_75 rfl).trans ?_
    refine (x_iconst D132_76 (k := 1) (by decide)).trans ?_
    refine (x_iushr D132_77).trans ?_
    refine (x_iadd D132_78).trans ?_
    exact x_iret D132_79 M132.2.2.1
theorem D134_0 : decode (mB 134) 0 = .ok (.iload_n 0, 1) := by decide +kernel
theorem D134_1 : decode (mB 134) 1 = .ok (.iload_n 0, 1) := by decide +kernel
theorem D134_2 : decode (mB 134) 2 = .ok (.iconst 1, 1) := by decide +kernel
theorem D134_3 : decode (mB 134) 3 = .ok (.iushr, 1) := by decide +kernel
theorem R134_4 : iRes (mC 134) 265 = some (1431655765) := by decide +kernel
theorem D134_4 : decode (mB 134) 4 = .ok (.ldc_w 265, 3) := by decide +kernel
theorem D134_7 : decode (mB 134) 7 = .ok (.iand, 1) := by decide +kernel
theorem D134_8 : decode (mB 134) 8 = .ok (.isub, 1) := by decide +kernel
theorem D134_9 : decode (mB 134) 9 = .ok (.istore_n 0, 1) := by decide +kernel
theorem D134_10 : decode (mB 134) 10 = .ok (.iload_n 0, 1) := by decide +kernel
theorem R134_11 : iRes (mC 134) 266 = some (858993459) := by decide +kernel
theorem D134_11 : decode (mB 134) 11 = .ok (.ldc_w 266, 3) := by decide +kernel
theorem D134_14 : decode (mB 134) 14 = .ok (.iand, 1) := by decide +kernel
theorem D134_15 : decode (mB 134) 15 = .ok (.iload_n 0, 1) := by decide +kernel
theorem D134_16 : decode (mB 134) 16 = .ok (.iconst 2, 1) := by decide +kernel
theorem D134_17 : decode (mB 134) 17 = .ok (.iushr, 1) := by decide +kernel
theorem R134_18 : iRes (mC 134) 266 = some (858993459) := by decide +kernel
theorem D134_18 : decode (mB 134) 18 = .ok (.ldc_w 266, 3) := by decide +kernel
theorem D134_21 : decode (mB 134) 21 = .ok (.iand, 1) := by decide +kernel
theorem D134_22 : decode (mB 134) 22 = .ok (.iadd, 1) := by decide +kernel
theorem D134_23 : decode (mB 134) 23 = .ok (.istore_n 0, 1) := by decide +kernel
theorem D134_24 : decode (mB 134) 24 = .ok (.iload_n 0, 1) := by decide +kernel
theorem D134_25 : decode (mB 134) 25 = .ok (.iload_n 0, 1) := by decide +kernel
theorem D134_26 : decode (mB 134) 26 = .ok (.iconst 4, 1) := by decide +kernel
theorem D134_27 : decode (mB 134) 27 = .ok (.iushr, 1) := by decide +kernel
theorem D134_28 : decode (mB 134) 28 = .ok (.iadd, 1) := by decide +kernel
theorem R134_29 : iRes (mC 134) 267 = some (252645135) := by decide +kernel
theorem D134_29 : decode (mB 134) 29 = .ok (.ldc_w 267, 3) := by decide +kernel
theorem D134_32 : decode (mB 134) 32 = .ok (.iand, 1) := by decide +kernel
theorem D134_33 : decode (mB 134) 33 = .ok (.istore_n 0, 1) := by decide +kernel
theorem D134_34 : decode (mB 134) 34 = .ok (.iload_n 0, 1) := by decide +kernel
theorem D134_35 : decode (mB 134) 35 = .ok (.iload_n 0, 1) := by decide +kernel
theorem D134_36 : decode (mB 134) 36 = .ok (.bipush 8, 2) := by decide +kernel
theorem D134_38 : decode (mB 134) 38 = .ok (.iushr, 1) := by decide +kernel
theorem D134_39 : decode (mB 134) 39 = .ok (.iadd, 1) := by decide +kernel
theorem D134_40 : decode (mB 134) 40 = .ok (.istore_n 0, 1) := by decide +kernel
theorem D134_41 : decode (mB 134) 41 = .ok (.iload_n 0, 1) := by decide +kernel
theorem D134_42 : decode (mB 134) 42 = .ok (.iload_n 0, 1) := by decide +kernel
theorem D134_43 : decode (mB 134) 43 = .ok (.bipush 16, 2) := by decide +kernel
theorem D134_45 : decode (mB 134) 45 = .ok (.iushr, 1) := by decide +kernel
theorem D134_46 : decode (mB 134) 46 = .ok (.iadd, 1) := by decide +kernel
theorem D134_47 : decode (mB 134) 47 = .ok (.istore_n 0, 1) := by decide +kernel
theorem D134_48 : decode (mB 134) 48 = .ok (.iload_n 0, 1) := by decide +kernel
theorem D134_49 : decode (mB 134) 49 = .ok (.bipush 63, 2) := by decide +kernel
theorem D134_51 : decode (mB 134) 51 = .ok (.iand, 1) := by decide +kernel
theorem D134_52 : decode (mB 134) 52 = .ok (.ireturn, 1) := by decide +kernel
theorem In_bitCount_e (d : Nat) (x0 : Int32) (m : eM)  : In_bitCount d x0 m = lI (x0 - (((x0.toUInt32 >>> ((1 : Int32).toUInt32 &&& Int32.toUInt32 31)).toInt32) &&& (1431655765 : Int32))) fun v1 => lI ((v1 &&& (858993459 : Int32)) + (((v1.toUInt32 >>> ((2 : Int32).toUInt32 &&& Int32.toUInt32 31)).toInt32) &&& (858993459 : Int32))) fun v2 => lI ((v2 + ((v2.toUInt32 >>> ((4 : Int32).toUInt32 &&& Int32.toUInt32 31)).toInt32)) &&& (252645135 : Int32)) fun v3 => lI (v3 + ((v3.toUInt32 >>> ((8 : Int32).toUInt32 &&& Int32.toUInt32 31)).toInt32)) fun v4 => lI (v4 + ((v4.toUInt32 >>> ((16 : Int32).toUInt32 &&& Int32.toUInt32 31)).toInt32)) fun v5 => yI (v5 &&& (63 : Int32)) m := by
  unfold In_bitCount
  refine (x_iload1 D134_0 rfl).trans ?_
  refine (x_iload1 D134_1 rfl).trans ?_
  refine (x_iconst D134_2 (k := 1) (by decide)).trans ?_
  refine (x_iushr D134_3).trans ?_
  refine (x_ldcw D134_4 R134_4).trans ?_
  refine (x_iand D134_7).trans ?_
  refine (x_isub D134_8).trans ?_
  refine (x_istore1 D134_9 (ls' := [.int (x0 - (((x0.toUInt32 >>> ((1 : Int32).toUInt32 &&& Int32.toUInt32 31)).toInt32) &&& (1431655765 : Int32)))]) rfl rfl).trans ?_
  refine lI_i (fun v1 => X d 134 10 [.int v1] [] m) _ ?_ _
  intro v1
  refine (x_iload1 D134_10 rfl).trans ?_
  refine (x_ldcw D134_11 R134_11).trans ?_
  refine (x_iand D134_14).trans ?_
  refine (x_iload1 D134_15 rfl).trans ?_
  refine (x_iconst D134_16 (k := 2) (by decide)).trans ?_
  refine (x_iushr D134_17).trans ?_
  refine (x_ldcw D134_18 R134_18).trans ?_
  refine (x_iand D134_21).trans ?_
  refine (x_iadd D134_22).trans ?_
  refine (x_istore1 D134_23 (ls' := [.int ((v1 &&& (858993459 : Int32)) + (((v1.toUInt32 >>> ((2 : Int32).toUInt32 &&& Int32.toUInt32 31)).toInt32) &&& (858993459 : Int32)))]) rfl rfl).trans ?_
  refine lI_i (fun v2 => X d 134 24 [.int v2] [] m) _ ?_ _
  intro v2
  refine (x_iload1 D134_24 rfl).trans ?_
  refine (x_iload1 D134_25 rfl).trans ?_
  refine (x_iconst D134_26 (k := 4) (by decide)).trans ?_
  refine (x_iushr D134_27).trans ?_
  refine (x_iadd D134_28).trans ?_
  refine (x_ldcw D134_29 R134_29).trans ?_
  refine (x_iand D134_32).trans ?_
  refine (x_istore1 D134_33 (ls' := [.int ((v2 + ((v2.toUInt32 >>> ((4 : Int32).toUInt32 &&& Int32.toUInt32 31)).toInt32)) &&& (252645135 : Int32))]) rfl rfl).trans ?_
  refine lI_i (fun v3 => X d 134 34 [.int v3] [] m) _ ?_ _
  intro v3
  refine (x_iload1 D134_34 rfl).trans ?_
  refine (x_iload1 D134_35 rfl).trans ?_
  refine (x_bipush D134_36 (k := 8) (by decide)).trans ?_
  refine (x_iushr D134_38).trans ?_
  refine (x_iadd D134_39).trans ?_
  refine (x_istore1 D134_40 (ls' := [.int (v3 + ((v3.toUInt32 >>> ((8 : Int32).toUInt32 &&& Int32.toUInt32 31)).toInt32))]) rfl rfl).trans ?_
  refine lI_i (fun v4 => X d 134 41 [.int v4] [] m) _ ?_ _
  intro v4
  refine (x_iload1 D134_41 rfl).trans ?_
  refine (x_iload1 D134_42 rfl).trans ?_
  refine (x_bipush D134_43 (k := 16) (by decide)).trans ?_
  refine (x_iushr D134_45).trans ?_
  refine (x_iadd D134_46).trans ?_
  refine (x_istore1 D134_47 (ls' := [.int (v4 + ((v4.toUInt32 >>> ((16 : Int32).toUInt32 &&& Int32.toUInt32 31)).toInt32))]) rfl rfl).trans ?_
  refine lI_i (fun v5 => X d 134 48 [.int v5] [] m) _ ?_ _
  intro v5
  refine (x_iload1 D134_48 rfl).trans ?_
  refine (x_bipush D134_49 (k := 63) (by decide)).trans ?_
  refine (x_iand D134_51).trans ?_
  exact x_iret D134_52 M134.2.2.1
