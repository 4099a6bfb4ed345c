/-! ===== equations: LiarsCock$Formula, LiarsCock$Parish (printed by wip/whole/gen17.py) ===== -/
theorem D2_0 : decode (mB 2) 0 = .ok (.aload_n 0, 1) := by decide +kernel
theorem D2_1 : OB 2 1 := ⟨5, by decide +kernel, by decide +kernel, by decide +kernel⟩
theorem D2_4 : decode (mB 2) 4 = .ok (.aload_n 0, 1) := by decide +kernel
theorem D2_5 : decode (mB 2) 5 = .ok (.sipush 1000, 3) := by decide +kernel
theorem D2_8 : decode (mB 2) 8 = .ok (.newarray .int, 2) := by decide +kernel
theorem D2_10 : PF 2 10 2 0 2 := ⟨13, true, by decide +kernel, by decide +kernel, by decide +kernel, by decide⟩
theorem D2_13 : decode (mB 2) 13 = .ok (.aload_n 0, 1) := by decide +kernel
theorem D2_14 : decode (mB 2) 14 = .ok (.bipush 64, 2) := by decide +kernel
theorem D2_16 : decode (mB 2) 16 = .ok (.newarray .int, 2) := by decide +kernel
theorem D2_18 : PF 2 18 2 1 2 := ⟨17, true, by decide +kernel, by decide +kernel, by decide +kernel, by decide⟩
theorem D2_21 : decode (mB 2) 21 = .ok (.return_, 1) := by decide +kernel
theorem Fo_init_e (d : Nat) (a0 : Nat) (m : eM) (h_a0 : kd a0 = 2) : Fo_init (d + 1) a0 m = nA m 20 (1000 : Int32) fun a1 m2 => mQ m2 a0 0 (some a1) fun m3 => nA m3 20 (64 : Int32) fun a4 m5 => mQ m5 a0 1 (some a4) fun m6 => yV m6 := by
  unfold Fo_init
  refine (x_aload1 D2_0 rfl).trans ?_
  refine (x_obj D2_1 rfl).trans ?_
  refine (x_aload1 D2_4 rfl).trans ?_
  refine (x_sipush D2_5 (k := 1000) (by decide)).trans ?_
  refine (x_newI D2_8).trans (nA_c fun a1 m2 => ?_)
  refine (x_putR D2_10 h_a0).trans ?_
  refine mQ_i (fun m3 => X (d + 1) 2 13 [.ref a0] [] m3) _ ?_
  intro m3
  refine (x_aload1 D2_13 rfl).trans ?_
  refine (x_bipush D2_14 (k := 64) (by decide)).trans ?_
  refine (x_newI D2_16).trans (nA_c fun a4 m5 => ?_)
  refine (x_putR D2_18 h_a0).trans ?_
  refine mQ_i (fun m6 => X (d + 1) 2 21 [.ref a0] [] m6) _ ?_
  intro m6
  exact x_vret D2_21 M2.2.2.1
theorem D4_0 : decode (mB 4) 0 = .ok (.aload_n 0, 1) := by decide +kernel
theorem D4_1 : OB 4 1 := ⟨3, by decide +kernel, by decide +kernel, by decide +kernel⟩
theorem D4_4 : decode (mB 4) 4 = .ok (.aload_n 0, 1) := by decide +kernel
theorem D4_5 : decode (mB 4) 5 = .ok (.bipush 6, 2) := by decide +kernel
theorem D4_7 : decode (mB 4) 7 = .ok (.newarray .long, 2) := by decide +kernel
theorem D4_9 : PF 4 9 4 4 2 := ⟨9, true, by decide +kernel, by decide +kernel, by decide +kernel, by decide⟩
theorem D4_12 : decode (mB 4) 12 = .ok (.aload_n 0, 1) := by decide +kernel
theorem D4_13 : decode (mB 4) 13 = .ok (.bipush 6, 2) := by decide +kernel
theorem D4_15 : decode (mB 4) 15 = .ok (.newarray .int, 2) := by decide +kernel
theorem D4_17 : PF 4 17 4 5 2 := ⟨15, true, by decide +kernel, by decide +kernel, by decide +kernel, by decide⟩
theorem D4_20 : decode (mB 4) 20 = .ok (.aload_n 0, 1) := by decide +kernel
theorem D4_21 : decode (mB 4) 21 = .ok (.bipush 6, 2) := by decide +kernel
theorem D4_23 : decode (mB 4) 23 = .ok (.newarray .long, 2) := by decide +kernel
theorem D4_25 : PF 4 25 4 6 2 := ⟨19, true, by decide +kernel, by decide +kernel, by decide +kernel, by decide⟩
theorem D4_28 : decode (mB 4) 28 = .ok (.aload_n 0, 1) := by decide +kernel
theorem D4_29 : decode (mB 4) 29 = .ok (.bipush 6, 2) := by decide +kernel
theorem D4_31 : decode (mB 4) 31 = .ok (.newarray .int, 2) := by decide +kernel
theorem D4_33 : PF 4 33 4 7 2 := ⟨22, true, by decide +kernel, by decide +kernel, by decide +kernel, by decide⟩
theorem D4_36 : decode (mB 4) 36 = .ok (.aload_n 0, 1) := by decide +kernel
theorem D4_37 : decode (mB 4) 37 = .ok (.bipush 6, 2) := by decide +kernel
theorem D4_39 : decode (mB 4) 39 = .ok (.newarray .long, 2) := by decide +kernel
theorem D4_41 : PF 4 41 4 8 2 := ⟨25, true, by decide +kernel, by decide +kernel, by decide +kernel, by decide⟩
theorem D4_44 : decode (mB 4) 44 = .ok (.aload_n 0, 1) := by decide +kernel
theorem D4_45 : decode (mB 4) 45 = .ok (.bipush 6, 2) := by decide +kernel
theorem D4_47 : decode (mB 4) 47 = .ok (.newarray .int, 2) := by decide +kernel
theorem D4_49 : PF 4 49 4 9 2 := ⟨28, true, by decide +kernel, by decide +kernel, by decide +kernel, by decide⟩
theorem D4_52 : decode (mB 4) 52 = .ok (.aload_n 0, 1) := by decide +kernel
theorem D4_53 : decode (mB 4) 53 = .ok (.bipush 6, 2) := by decide +kernel
theorem D4_55 : decode (mB 4) 55 = .ok (.newarray .int, 2) := by decide +kernel
theorem D4_57 : PF 4 57 4 10 2 := ⟨31, true, by decide +kernel, by decide +kernel, by decide +kernel, by decide⟩
theorem D4_60 : decode (mB 4) 60 = .ok (.aload_n 0, 1) := by decide +kernel
theorem D4_61 : decode (mB 4) 61 = .ok (.bipush 6, 2) := by decide +kernel
theorem D4_63 : decode (mB 4) 63 = .ok (.newarray .int, 2) := by decide +kernel
theorem D4_65 : PF 4 65 4 11 2 := ⟨34, true, by decide +kernel, by decide +kernel, by decide +kernel, by decide⟩
theorem D4_68 : decode (mB 4) 68 = .ok (.aload_n 0, 1) := by decide +kernel
theorem D4_69 : decode (mB 4) 69 = .ok (.iconst 2, 1) := by decide +kernel
theorem D4_70 : decode (mB 4) 70 = .ok (.newarray .boolean, 2) := by decide +kernel
theorem D4_72 : PF 4 72 4 12 2 := ⟨37, true, by decide +kernel, by decide +kernel, by decide +kernel, by decide⟩
theorem D4_75 : decode (mB 4) 75 = .ok (.aload_n 0, 1) := by decide +kernel
theorem D4_76 : decode (mB 4) 76 = .ok (.iconst 2, 1) := by decide +kernel
theorem D4_77 : decode (mB 4) 77 = .ok (.newarray .int, 2) := by decide +kernel
theorem D4_79 : PF 4 79 4 13 2 := ⟨41, true, by decide +kernel, by decide +kernel, by decide +kernel, by decide⟩
theorem D4_82 : decode (mB 4) 82 = .ok (.aload_n 0, 1) := by decide +kernel
theorem D4_83 : decode (mB 4) 83 = .ok (.iconst 2, 1) := by decide +kernel
theorem D4_84 : decode (mB 4) 84 = .ok (.newarray .int, 2) := by decide +kernel
theorem D4_86 : PF 4 86 4 14 2 := ⟨44, true, by decide +kernel, by decide +kernel, by decide +kernel, by decide⟩
theorem D4_89 : decode (mB 4) 89 = .ok (.aload_n 0, 1) := by decide +kernel
theorem D4_90 : decode (mB 4) 90 = .ok (.lconst 1, 1) := by decide +kernel
theorem D4_91 : PF 4 91 4 15 1 := ⟨47, false, by decide +kernel, by decide +kernel, by decide +kernel, by decide⟩
theorem D4_94 : decode (mB 4) 94 = .ok (.return_, 1) := by decide +kernel
theorem Pa_init_e (d : Nat) (a0 : Nat) (m : eM) (h_a0 : kd a0 = 4) : Pa_init (d + 1) a0 m = nA m 21 (6 : Int32) fun a1 m2 => mQ m2 a0 4 (some a1) fun m3 => nA m3 20 (6 : Int32) fun a4 m5 => mQ m5 a0 5 (some a4) fun m6 => nA m6 21 (6 : Int32) fun a7 m8 => mQ m8 a0 6 (some a7) fun m9 => nA m9 20 (6 : Int32) fun a10 m11 => mQ m11 a0 7 (some a10) fun m12 => nA m12 21 (6 : Int32) fun a13 m14 => mQ m14 a0 8 (some a13) fun m15 => nA m15 20 (6 : Int32) fun a16 m17 => mQ m17 a0 9 (some a16) fun m18 => nA m18 20 (6 : Int32) fun a19 m20 => mQ m20 a0 10 (some a19) fun m21 => nA m21 20 (6 : Int32) fun a22 m23 => mQ m23 a0 11 (some a22) fun m24 => nA m24 23 (2 : Int32) fun a25 m26 => mQ m26 a0 12 (some a25) fun m27 => nA m27 20 (2 : Int32) fun a28 m29 => mQ m29 a0 13 (some a28) fun m30 => nA m30 20 (2 : Int32) fun a31 m32 => mQ m32 a0 14 (some a31) fun m33 => mJ m33 a0 15 (1 : Int64) fun m34 => yV m34 := by
  unfold Pa_init
  refine (x_aload1 D4_0 rfl).trans ?_
  refine (x_obj D4_1 rfl).trans ?_
  refine (x_aload1 D4_4 rfl).trans ?_
  refine (x_bipush D4_5 (k := 6) (by decide)).trans ?_
  refine (x_newJ D4_7).trans (nA_c fun a1 m2 => ?_)
  refine (x_putR D4_9 h_a0).trans ?_
  refine mQ_i (fun m3 => X (d + 1) 4 12 [.ref a0] [] m3) _ ?_
  intro m3
  refine (x_aload1 D4_12 rfl).trans ?_
  refine (x_bipush D4_13 (k := 6) (by decide)).trans ?_
  refine (x_newI D4_15).trans (nA_c fun a4 m5 => ?_)
  refine (x_putR D4_17 h_a0).trans ?_
  refine mQ_i (fun m6 => X (d + 1) 4 20 [.ref a0] [] m6) _ ?_
  intro m6
  refine (x_aload1 D4_20 rfl).trans ?_
  refine (x_bipush D4_21 (k := 6) (by decide)).trans ?_
  refine (x_newJ D4_23).trans (nA_c fun a7 m8 => ?_)
  refine (x_putR D4_25 h_a0).trans ?_
  refine mQ_i (fun m9 => X (d + 1) 4 28 [.ref a0] [] m9) _ ?_
  intro m9
  refine (x_aload1 D4_28 rfl).trans ?_
  refine (x_bipush D4_29 (k := 6) (by decide)).trans ?_
  refine (x_newI D4_31).trans (nA_c fun a10 m11 => ?_)
  refine (x_putR D4_33 h_a0).trans ?_
  refine mQ_i (fun m12 => X (d + 1) 4 36 [.ref a0] [] m12) _ ?_
  intro m12
  refine (x_aload1 D4_36 rfl).trans ?_
  refine (x_bipush D4_37 (k := 6) (by decide)).trans ?_
  refine (x_newJ D4_39).trans (nA_c fun a13 m14 => ?_)
  refine (x_putR D4_41 h_a0).trans ?_
  refine mQ_i (fun m15 => X (d + 1) 4 44 [.ref a0] [] m15) _ ?_
  intro m15
  refine (x_aload1 D4_44 rfl).trans ?_
  refine (x_bipush D4_45 (k := 6) (by decide)).trans ?_
  refine (x_newI D4_47).trans (nA_c fun a16 m17 => ?_)
  refine (x_putR D4_49 h_a0).trans ?_
  refine mQ_i (fun m18 => X (d + 1) 4 52 [.ref a0] [] m18) _ ?_
  intro m18
  refine (x_aload1 D4_52 rfl).trans ?_
  refine (x_bipush D4_53 (k := 6) (by decide)).trans ?_
  refine (x_newI D4_55).trans (nA_c fun a19 m20 => ?_)
  refine (x_putR D4_57 h_a0).trans ?_
  refine mQ_i (fun m21 => X (d + 1) 4 60 [.ref a0] [] m21) _ ?_
  intro m21
  refine (x_aload1 D4_60 rfl).trans ?_
  refine (x_bipush D4_61 (k := 6) (by decide)).trans ?_
  refine (x_newI D4_63).trans (nA_c fun a22 m23 => ?_)
  refine (x_putR D4_65 h_a0).trans ?_
  refine mQ_i (fun m24 => X (d + 1) 4 68 [.ref a0] [] m24) _ ?_
  intro m24
  refine (x_aload1 D4_68 rfl).trans ?_
  refine (x_iconst D4_69 (k := 2) (by decide)).trans ?_
  refine (x_newB D4_70).trans (nA_c fun a25 m26 => ?_)
  refine (x_putR D4_72 h_a0).trans ?_
  refine mQ_i (fun m27 => X (d + 1) 4 75 [.ref a0] [] m27) _ ?_
  intro m27
  refine (x_aload1 D4_75 rfl).trans ?_
  refine (x_iconst D4_76 (k := 2) (by decide)).trans ?_
  refine (x_newI D4_77).trans (nA_c fun a28 m29 => ?_)
  refine (x_putR D4_79 h_a0).trans ?_
  refine mQ_i (fun m30 => X (d + 1) 4 82 [.ref a0] [] m30) _ ?_
  intro m30
  refine (x_aload1 D4_82 rfl).trans ?_
  refine (x_iconst D4_83 (k := 2) (by decide)).trans ?_
  refine (x_newI D4_84).trans (nA_c fun a31 m32 => ?_)
  refine (x_putR D4_86 h_a0).trans ?_
  refine mQ_i (fun m33 => X (d + 1) 4 89 [.ref a0] [] m33) _ ?_
  intro m33
  refine (x_aload1 D4_89 rfl).trans ?_
  refine (x_lconst1 D4_90).trans ?_
  refine (x_putL D4_91 h_a0).trans ?_
  refine mJ_i (fun m34 => X (d + 1) 4 94 [.ref a0] [] m34) _ ?_
  intro m34
  exact x_vret D4_94 M4.2.2.1
theorem D20_0 : decode (mB 20) 0 = .ok (.iconst 1, 1) := by decide +kernel
theorem D20_1 : decode (mB 20) 1 = .ok (.istore_n 3, 1) := by decide +kernel
theorem D20_2 : decode (mB 20) 2 = .ok (.iconst 0, 1) := by decide +kernel
theorem D20_3 : decode (mB 20) 3 = .ok (.istore 4, 2) := by decide +kernel
theorem D20_5 : decode (mB 20) 5 = .ok (.iload 4, 2) := by decide +kernel
theorem D20_7 : decode (mB 20) 7 = .ok (.sipush 1000, 3) := by decide +kernel
theorem D20_10 : BR 20 10 (.if_icmp .ge 121) (121) 131 := ⟨by decide +kernel, by decide, by decide⟩
theorem D20_131 : decode (mB 20) 131 = .ok (.iload_n 3, 1) := by decide +kernel
theorem D20_132 : decode (mB 20) 132 = .ok (.ireturn, 1) := by decide +kernel
theorem D20_13 : decode (mB 20) 13 = .ok (.iload_n 3, 1) := by decide +kernel
theorem D20_14 : BR 20 14 (.ifCond .eq 117) (117) 131 := ⟨by decide +kernel, by decide, by decide⟩
theorem D20_17 : decode (mB 20) 17 = .ok (.aload_n 1, 1) := by decide +kernel
theorem D20_18 : CS 20 18 21 0 := ⟨.invokevirtual 53, by decide +kernel, by decide +kernel, by decide +kernel, by decide⟩
theorem D20_21 : BR 20 21 (.ifCond .eq 110) (110) 131 := ⟨by decide +kernel, by decide, by decide⟩
theorem D20_24 : decode (mB 20) 24 = .ok (.aload_n 1, 1) := by decide +kernel
theorem R20_25 : lRes (mC 20) 57 = some (1717658484) := by decide +kernel
theorem D20_25 : decode (mB 20) 25 = .ok (.ldc2_w 57, 3) := by decide +kernel
theorem D20_28 : CS 20 28 22 0 := ⟨.invokevirtual 59, by decide +kernel, by decide +kernel, by decide +kernel, by decide⟩
theorem D20_31 : BR 20 31 (.ifCond .eq 12) (12) 43 := ⟨by decide +kernel, by decide, by decide⟩
theorem D20_43 : decode (mB 20) 43 = .ok (.aload_n 1, 1) := by decide +kernel
theorem R20_44 : lRes (mC 20) 67 = some (482854658917) := by decide +kernel
theorem D20_44 : decode (mB 20) 44 = .ok (.ldc2_w 67, 3) := by decide +kernel
theorem D20_47 : CS 20 47 22 0 := ⟨.invokevirtual 59, by decide +kernel, by decide +kernel, by decide +kernel, by decide⟩
theorem D20_50 : BR 20 50 (.ifCond .eq 12) (12) 62 := ⟨by decide +kernel, by decide, by decide⟩
theorem D20_62 : decode (mB 20) 62 = .ok (.aload_n 1, 1) := by decide +kernel
theorem R20_63 : lRes (mC 20) 72 = some (123581014175598) := by decide +kernel
theorem D20_63 : decode (mB 20) 63 = .ok (.ldc2_w 72, 3) := by decide +kernel
theorem D20_66 : CS 20 66 22 0 := ⟨.invokevirtual 59, by decide +kernel, by decide +kernel, by decide +kernel, by decide⟩
theorem D20_69 : BR 20 69 (.ifCond .eq 12) (12) 81 := ⟨by decide +kernel, by decide, by decide⟩
theorem D20_81 : decode (mB 20) 81 = .ok (.aload_n 1, 1) := by decide +kernel
theorem R20_82 : lRes (mC 20) 77 = some (109330228408174) := by decide +kernel
theorem D20_82 : decode (mB 20) 82 = .ok (.ldc2_w 77, 3) := by decide +kernel
theorem D20_85 : CS 20 85 22 0 := ⟨.invokevirtual 59, by decide +kernel, by decide +kernel, by decide +kernel, by decide⟩
theorem D20_88 : BR 20 88 (.ifCond .eq 13) (13) 101 := ⟨by decide +kernel, by decide, by decide⟩
theorem D20_101 : decode (mB 20) 101 = .ok (.aload_n 1, 1) := by decide +kernel
theorem R20_102 : lRes (mC 20) 83 = some (1668244331) := by decide +kernel
theorem D20_102 : decode (mB 20) 102 = .ok (.ldc2_w 83, 3) := by decide +kernel
theorem D20_105 : CS 20 105 36 0 := ⟨.invokevirtual 85, by decide +kernel, by decide +kernel, by decide +kernel, by decide⟩
theorem D20_108 : BR 20 108 (.ifCond .eq 15) (15) 123 := ⟨by decide +kernel, by decide, by decide⟩
theorem D20_123 : decode (mB 20) 123 = .ok (.iconst 0, 1) := by decide +kernel
theorem D20_124 : decode (mB 20) 124 = .ok (.istore_n 3, 1) := by decide +kernel
theorem D20_125 : decode (mB 20) 125 = .ok (.iinc 4 1, 3) := by decide +kernel
theorem D20_128 : BR 20 128 (.goto (-123)) (-123) 5 := ⟨by decide +kernel, by decide, by decide⟩
theorem D20_111 : decode (mB 20) 111 = .ok (.aload_n 0, 1) := by decide +kernel
theorem D20_112 : decode (mB 20) 112 = .ok (.aload_n 1, 1) := by decide +kernel
theorem D20_113 : CS 20 113 58 0 := ⟨.invokevirtual 88, by decide +kernel, by decide +kernel, by decide +kernel, by decide⟩
theorem D20_116 : BR 20 116 (.ifCond .eq 7) (7) 123 := ⟨by decide +kernel, by decide, by decide⟩
theorem D20_119 : decode (mB 20) 119 = .ok (.iconst 1, 1) := by decide +kernel
theorem D20_120 : BR 20 120 (.goto 4) (4) 124 := ⟨by decide +kernel, by decide, by decide⟩
theorem D20_91 : decode (mB 20) 91 = .ok (.aload_n 0, 1) := by decide +kernel
theorem D20_92 : decode (mB 20) 92 = .ok (.aload_n 1, 1) := by decide +kernel
theorem D20_93 : decode (mB 20) 93 = .ok (.aload_n 2, 1) := by decide +kernel
theorem D20_94 : CS 20 94 43 0 := ⟨.invokevirtual 79, by decide +kernel, by decide +kernel, by decide +kernel, by decide⟩
theorem D20_97 : decode (mB 20) 97 = .ok (.istore_n 3, 1) := by decide +kernel
theorem D20_98 : BR 20 98 (.goto 27) (27) 125 := ⟨by decide +kernel, by decide, by decide⟩
theorem D20_72 : decode (mB 20) 72 = .ok (.aload_n 0, 1) := by decide +kernel
theorem D20_73 : decode (mB 20) 73 = .ok (.aload_n 1, 1) := by decide +kernel
theorem D20_74 : CS 20 74 38 0 := ⟨.invokevirtual 74, by decide +kernel, by decide +kernel, by decide +kernel, by decide⟩
theorem D20_77 : decode (mB 20) 77 = .ok (.istore_n 3, 1) := by decide +kernel
theorem D20_78 : BR 20 78 (.goto 47) (47) 125 := ⟨by decide +kernel, by decide, by decide⟩
theorem D20_53 : decode (mB 20) 53 = .ok (.aload_n 0, 1) := by decide +kernel
theorem D20_54 : decode (mB 20) 54 = .ok (.aload_n 1, 1) := by decide +kernel
theorem D20_55 : CS 20 55 35 0 := ⟨.invokevirtual 69, by decide +kernel, by decide +kernel, by decide +kernel, by decide⟩
theorem D20_58 : decode (mB 20) 58 = .ok (.istore_n 3, 1) := by decide +kernel
theorem D20_59 : BR 20 59 (.goto 66) (66) 125 := ⟨by decide +kernel, by decide, by decide⟩
theorem D20_34 : decode (mB 20) 34 = .ok (.aload_n 0, 1) := by decide +kernel
theorem D20_35 : decode (mB 20) 35 = .ok (.aload_n 1, 1) := by decide +kernel
theorem D20_36 : CS 20 36 23 0 := ⟨.invokevirtual 63, by decide +kernel, by decide +kernel, by decide +kernel, by decide⟩
theorem D20_39 : decode (mB 20) 39 = .ok (.istore_n 3, 1) := by decide +kernel
theorem D20_40 : BR 20 40 (.goto 85) (85) 125 := ⟨by decide +kernel, by decide, by decide⟩
theorem Pa_read_e (d : Nat) (a0 : Nat) (a1 : Nat) (a2 : Nat) (m : eM) (h_a0 : kd a0 = 4) (h_a1 : kd a1 = 8) (h_a2 : kd a2 = 2) : Pa_read (d + 1) a0 a1 a2 m = Pa_read_5 (d + 1) a0 a1 a2 (1 : Int32) (0 : Int32) m := by
  unfold Pa_read
  refine (x_iconst D20_0 (k := 1) (by decide)).trans ?_
  refine (x_istore1 D20_1 (ls' := [.ref a0, .ref a1, .ref a2, .int (1 : Int32), eU]) rfl rfl).trans ?_
  refine (x_iconst D20_2 (k := 0) (by decide)).trans ?_
  refine (x_istore2 D20_3 (ls' := [.ref a0, .ref a1, .ref a2, .int (1 : Int32), .int (0 : Int32)]) rfl rfl).trans ?_
  rfl
theorem Pa_read_5_e (d : Nat) (a0 : Nat) (a1 : Nat) (a2 : Nat) (x3 : Int32) (x4 : Int32) (m : eM) (h_a0 : kd a0 = 4) (h_a1 : kd a1 = 8) (h_a2 : kd a2 = 2) : Pa_read_5 (d + 1) a0 a1 a2 x3 x4 m = if (1000 : Int32) ≤ x4 then (yB x3 m) else (if x3 = 0 then (yB x3 m) else (bI (Ta_kind d a1 m) fun v2 m1 => if v2 = 0 then (yB x3 m1) else (bI (Ta_isWord d a1 (1717658484 : Int64) m1) fun v4 m3 => if v4 = 0 then (bI (Ta_isWord d a1 (482854658917 : Int64) m3) fun v6 m5 => if v6 = 0 then (bI (Ta_isWord d a1 (123581014175598 : Int64) m5) fun v8 m7 => if v8 = 0 then (bI (Ta_isWord d a1 (109330228408174 : Int64) m7) fun v10 m9 => if v10 = 0 then (bI (Ta_takeWord d a1 (1668244331 : Int64) m9) fun v12 m11 => if v12 = 0 then (Pa_read_5 (d + 1) a0 a1 a2 (0 : Int32) (x4 + (1 : Int32)) m11) else (bI (Pa_readCock d a0 a1 m11) fun v14 m13 => if v14 = 0 then (Pa_read_5 (d + 1) a0 a1 a2 (0 : Int32) (x4 + (1 : Int32)) m13) else (Pa_read_5 (d + 1) a0 a1 a2 (1 : Int32) (x4 + (1 : Int32)) m13))) else (bI (Pa_readCommon d a0 a1 a2 m9) fun v16 m15 => Pa_read_5 (d + 1) a0 a1 a2 v16 (x4 + (1 : Int32)) m15)) else (bI (Pa_readPerson d a0 a1 m7) fun v18 m17 => Pa_read_5 (d + 1) a0 a1 a2 v18 (x4 + (1 : Int32)) m17)) else (bI (Pa_readPlace d a0 a1 m5) fun v20 m19 => Pa_read_5 (d + 1) a0 a1 a2 v20 (x4 + (1 : Int32)) m19)) else (bI (Pa_readFact d a0 a1 m3) fun v22 m21 => Pa_read_5 (d + 1) a0 a1 a2 v22 (x4 + (1 : Int32)) m21)))) := by
  unfold Pa_read_5
  refine (x_iload2 D20_5 rfl).trans ?_
  refine (x_sipush D20_7 (k := 1000) (by decide)).trans ?_
  refine (x_cge D20_10).trans (i_c ?_ ?_)
  · refine (x_iload1 D20_131 rfl).trans ?_
    exact x_bret D20_132 M20.2.2.1
  · refine (x_iload1 D20_13 rfl).trans ?_
    refine (x_ifeq D20_14).trans (i_c ?_ ?_)
    · refine (x_iload1 D20_131 rfl).trans ?_
      exact x_bret D20_132 M20.2.2.1
    · refine (x_aload1 D20_17 rfl).trans ?_
      refine (x_cI D20_18 M21 (fun z => by cases z) (I21 _) rfl rfl (ok_i M21 (I21 _) rfl rfl h_a1)).trans (bI_c fun v2 m1 => ?_)
      refine (x_ifeq D20_21).trans (i_c ?_ ?_)
      · refine (x_iload1 D20_131 rfl).trans ?_
        exact x_bret D20_132 M20.2.2.1
      · refine (x_aload1 D20_24 rfl).trans ?_
        refine (x_ldc2 D20_25 R20_25).trans ?_
        refine (x_cI D20_28 M22 (fun z => by cases z) (I22 _ _) rfl rfl (ok_i M22 (I22 _ _) rfl rfl h_a1)).trans (bI_c fun v4 m3 => ?_)
        refine (x_ifeq D20_31).trans (i_c ?_ ?_)
        · refine (x_aload1 D20_43 rfl).trans ?_
          refine (x_ldc2 D20_44 R20_44).trans ?_
          refine (x_cI D20_47 M22 (fun z => by cases z) (I22 _ _) rfl rfl (ok_i M22 (I22 _ _) rfl rfl h_a1)).trans (bI_c fun v6 m5 => ?_)
          refine (x_ifeq D20_50).trans (i_c ?_ ?_)
          · refine (x_aload1 D20_62 rfl).trans ?_
            refine (x_ldc2 D20_63 R20_63).trans ?_
            refine (x_cI D20_66 M22 (fun z => by cases z) (I22 _ _) rfl rfl (ok_i M22 (I22 _ _) rfl rfl h_a1)).trans (bI_c fun v8 m7 => ?_)
            refine (x_ifeq D20_69).trans (i_c ?_ ?_)
            · refine (x_aload1 D20_81 rfl).trans ?_
              refine (x_ldc2 D20_82 R20_82).trans ?_
              refine (x_cI D20_85 M22 (fun z => by cases z) (I22 _ _) rfl rfl (ok_i M22 (I22 _ _) rfl rfl h_a1)).trans (bI_c fun v10 m9 => ?_)
              refine (x_ifeq D20_88).trans (i_c ?_ ?_)
              · refine (x_aload1 D20_101 rfl).trans ?_
                refine (x_ldc2 D20_102 R20_102).trans ?_
                refine (x_cI D20_105 M36 (fun z => by cases z) (I36 _ _) rfl rfl (ok_i M36 (I36 _ _) rfl rfl h_a1)).trans (bI_c fun v12 m11 => ?_)
                refine (x_ifeq D20_108).trans (i_c ?_ ?_)
                · refine (x_iconst D20_123 (k := 0) (by decide)).trans ?_
                  refine (x_istore1 D20_124 (ls' := [.ref a0, .ref a1, .ref a2, .int (0 : Int32), .int x4]) rfl rfl).trans ?_
                  refine (x_iinc D20_125 rfl (k := 1) (by decide) (ls' := [.ref a0, .ref a1, .ref a2, .int (0 : Int32), .int (x4 + (1 : Int32))]) rfl).trans ?_
                  refine (x_goto D20_128).trans ?_
                  rfl
                · refine (x_aload1 D20_111 rfl).trans ?_
                  refine (x_aload1 D20_112 rfl).trans ?_
                  refine (x_cI D20_113 M58 (fun z => by cases z) (I58 _ _) rfl rfl (ok_i M58 (I58 _ _) rfl rfl h_a0)).trans (bI_c fun v14 m13 => ?_)
                  refine (x_ifeq D20_116).trans (i_c ?_ ?_)
                  · refine (x_iconst D20_123 (k := 0) (by decide)).trans ?_
                    refine (x_istore1 D20_124 (ls' := [.ref a0, .ref a1, .ref a2, .int (0 : Int32), .int x4]) rfl rfl).trans ?_
                    refine (x_iinc D20_125 rfl (k := 1) (by decide) (ls' := [.ref a0, .ref a1, .ref a2, .int (0 : Int32), .int (x4 + (1 : Int32))]) rfl).trans ?_
                    refine (x_goto D20_128).trans ?_
                    rfl
                  · refine (x_iconst D20_119 (k := 1) (by decide)).trans ?_
                    refine (x_goto D20_120).trans ?_
                    refine (x_istore1 D20_124 (ls' := [.ref a0, .ref a1, .ref a2, .int (1 : Int32), .int x4]) rfl rfl).trans ?_
                    refine (x_iinc D20_125 rfl (k := 1) (by decide) (ls' := [.ref a0, .ref a1, .ref a2, .int (1 : Int32), .int (x4 + (1 : Int32))]) rfl).trans ?_
                    refine (x_goto D20_128).trans ?_
                    rfl
              · refine (x_aload1 D20_91 rfl).trans ?_
                refine (x_aload1 D20_92 rfl).trans ?_
                refine (x_aload1 D20_93 rfl).trans ?_
                refine (x_cI D20_94 M43 (fun z => by cases z) (I43 _ _ _) rfl rfl (ok_i M43 (I43 _ _ _) rfl rfl h_a0)).trans (bI_c fun v16 m15 => ?_)
                refine (x_istore1 D20_97 (ls' := [.ref a0, .ref a1, .ref a2, .int v16, .int x4]) rfl rfl).trans ?_
                refine (x_goto D20_98).trans ?_
                refine (x_iinc D20_125 rfl (k := 1) (by decide) (ls' := [.ref a0, .ref a1, .ref a2, .int v16, .int (x4 + (1 : Int32))]) rfl).trans ?_
                refine (x_goto D20_128).trans ?_
                rfl
            · refine (x_aload1 D20_72 rfl).trans ?_
              refine (x_aload1 D20_73 rfl).trans ?_
              refine (x_cI D20_74 M38 (fun z => by cases z) (I38 _ _) rfl rfl (ok_i M38 (I38 _ _) rfl rfl h_a0)).trans (bI_c fun v18 m17 => ?_)
              refine (x_istore1 D20_77 (ls' := [.ref a0, .ref a1, .ref a2, .int v18, .int x4]) rfl rfl).trans ?_
              refine (x_goto D20_78).trans ?_
              refine (x_iinc D20_125 rfl (k := 1) (by decide) (ls' := [.ref a0, .ref a1, .ref a2, .int v18, .int (x4 + (1 : Int32))]) rfl).trans ?_
              refine (x_goto D20_128).trans ?_
              rfl
          · refine (x_aload1 D20_53 rfl).trans ?_
            refine (x_aload1 D20_54 rfl).trans ?_
            refine (x_cI D20_55 M35 (fun z => by cases z) (I35 _ _) rfl rfl (ok_i M35 (I35 _ _) rfl rfl h_a0)).trans (bI_c fun v20 m19 => ?_)
            refine (x_istore1 D20_58 (ls' := [.ref a0, .ref a1, .ref a2, .int v20, .int x4]) rfl rfl).trans ?_
            refine (x_goto D20_59).trans ?_
            refine (x_iinc D20_125 rfl (k := 1) (by decide) (ls' := [.ref a0, .ref a1, .ref a2, .int v20, .int (x4 + (1 : Int32))]) rfl).trans ?_
            refine (x_goto D20_128).trans ?_
            rfl
        · refine (x_aload1 D20_34 rfl).trans ?_
          refine (x_aload1 D20_35 rfl).trans ?_
          refine (x_cI D20_36 M23 (fun z => by cases z) (I23 _ _) rfl rfl (ok_i M23 (I23 _ _) rfl rfl h_a0)).trans (bI_c fun v22 m21 => ?_)
          refine (x_istore1 D20_39 (ls' := [.ref a0, .ref a1, .ref a2, .int v22, .int x4]) rfl rfl).trans ?_
          refine (x_goto D20_40).trans ?_
          refine (x_iinc D20_125 rfl (k := 1) (by decide) (ls' := [.ref a0, .ref a1, .ref a2, .int v22, .int (x4 + (1 : Int32))]) rfl).trans ?_
          refine (x_goto D20_128).trans ?_
          rfl
theorem D23_0 : decode (mB 23) 0 = .ok (.aload_n 0, 1) := by decide +kernel
theorem D23_1 : decode (mB 23) 1 = .ok (.aload_n 1, 1) := by decide +kernel
theorem D23_2 : decode (mB 23) 2 = .ok (.aload_n 0, 1) := by decide +kernel
theorem D23_3 : GF 23 3 4 0 0 := ⟨109, false, by decide +kernel, by decide +kernel⟩
theorem D23_6 : decode (mB 23) 6 = .ok (.bipush 6, 2) := by decide +kernel
theorem D23_8 : CS 23 8 24 0 := ⟨.invokevirtual 113, by decide +kernel, by decide +kernel, by decide +kernel, by decide⟩
theorem D23_11 : BR 23 11 (.ifCond .ne 5) (5) 16 := ⟨by decide +kernel, by decide, by decide⟩
theorem D23_16 : decode (mB 23) 16 = .ok (.aload_n 1, 1) := by decide +kernel
theorem D23_17 : CS 23 17 27 0 := ⟨.invokevirtual 102, by decide +kernel, by decide +kernel, by decide +kernel, by decide⟩
theorem D23_20 : decode (mB 23) 20 = .ok (.lstore_n 2, 1) := by decide +kernel
theorem D23_21 : decode (mB 23) 21 = .ok (.iconst 5, 1) := by decide +kernel
theorem D23_22 : decode (mB 23) 22 = .ok (.istore 4, 2) := by decide +kernel
theorem D23_24 : decode (mB 23) 24 = .ok (.aload_n 1, 1) := by decide +kernel
theorem D23_25 : CS 23 25 15 0 := ⟨.invokevirtual 95, by decide +kernel, by decide +kernel, by decide +kernel, by decide⟩
theorem D23_28 : decode (mB 23) 28 = .ok (.aload_n 1, 1) := by decide +kernel
theorem R23_29 : lRes (mC 23) 117 = some (109299962372965) := by decide +kernel
theorem D23_29 : decode (mB 23) 29 = .ok (.ldc2_w 117, 3) := by decide +kernel
theorem D23_32 : CS 23 32 22 0 := ⟨.invokevirtual 59, by decide +kernel, by decide +kernel, by decide +kernel, by decide⟩
theorem D23_35 : BR 23 35 (.ifCond .eq 28) (28) 63 := ⟨by decide +kernel, by decide, by decide⟩
theorem D23_63 : decode (mB 23) 63 = .ok (.aload_n 1, 1) := by decide +kernel
theorem D23_64 : decode (mB 23) 64 = .ok (.bipush 59, 2) := by decide +kernel
theorem D23_66 : CS 23 66 32 0 := ⟨.invokevirtual 125, by decide +kernel, by decide +kernel, by decide +kernel, by decide⟩
theorem D23_69 : BR 23 69 (.ifCond .ne 5) (5) 74 := ⟨by decide +kernel, by decide, by decide⟩
theorem D23_74 : decode (mB 23) 74 = .ok (.aload_n 0, 1) := by decide +kernel
theorem D23_75 : decode (mB 23) 75 = .ok (.lload_n 2, 1) := by decide +kernel
theorem D23_76 : decode (mB 23) 76 = .ok (.iload 4, 2) := by decide +kernel
theorem D23_78 : CS 23 78 34 0 := ⟨.invokevirtual 129, by decide +kernel, by decide +kernel, by decide +kernel, by decide⟩
theorem D23_81 : decode (mB 23) 81 = .ok (.iconst 1, 1) := by decide +kernel
theorem D23_82 : decode (mB 23) 82 = .ok (.ireturn, 1) := by decide +kernel
theorem D23_72 : decode (mB 23) 72 = .ok (.iconst 0, 1) := by decide +kernel
theorem D23_73 : decode (mB 23) 73 = .ok (.ireturn, 1) := by decide +kernel
theorem D23_38 : decode (mB 23) 38 = .ok (.aload_n 1, 1) := by decide +kernel
theorem D23_39 : CS 23 39 15 0 := ⟨.invokevirtual 95, by decide +kernel, by decide +kernel, by decide +kernel, by decide⟩
theorem D23_42 : decode (mB 23) 42 = .ok (.aload_n 1, 1) := by decide +kernel
theorem D23_43 : decode (mB 23) 43 = .ok (.bipush 10, 2) := by decide +kernel
theorem D23_45 : CS 23 45 30 0 := ⟨.invokevirtual 119, by decide +kernel, by decide +kernel, by decide +kernel, by decide⟩
theorem D23_48 : BR 23 48 (.ifCond .ne 5) (5) 53 := ⟨by decide +kernel, by decide, by decide⟩
theorem D23_53 : decode (mB 23) 53 = .ok (.aload_n 1, 1) := by decide +kernel
theorem D23_54 : CS 23 54 31 0 := ⟨.invokevirtual 122, by decide +kernel, by decide +kernel, by decide +kernel, by decide⟩
theorem D23_57 : decode (mB 23) 57 = .ok (.istore 4, 2) := by decide +kernel
theorem D23_59 : decode (mB 23) 59 = .ok (.aload_n 1, 1) := by decide +kernel
theorem D23_60 : CS 23 60 15 0 := ⟨.invokevirtual 95, by decide +kernel, by decide +kernel, by decide +kernel, by decide⟩
theorem D23_51 : decode (mB 23) 51 = .ok (.iconst 0, 1) := by decide +kernel
theorem D23_52 : decode (mB 23) 52 = .ok (.ireturn, 1) := by decide +kernel
theorem D23_14 : decode (mB 23) 14 = .ok (.iconst 0, 1) := by decide +kernel
theorem D23_15 : decode (mB 23) 15 = .ok (.ireturn, 1) := by decide +kernel
theorem Pa_readFact_e (d : Nat) (a0 : Nat) (a1 : Nat) (m : eM) (h_a0 : kd a0 = 4) (h_a1 : kd a1 = 8) : Pa_readFact (d + 1) a0 a1 m = bI (Pa_startLine d a0 a1 (gI m a0 0) (6 : Int32) m) fun v2 m1 => if ¬ v2 = 0 then (bL (Ta_word d a1 m1) fun v4 m3 => bV (Ta_step d a1 m3) fun m5 => bI (Ta_isWord d a1 (109299962372965 : Int64) m5) fun v7 m6 => if v7 = 0 then (bI (Ta_takeSign d a1 (59 : Int32) m6) fun v9 m8 => if ¬ v9 = 0 then (bV (Pa_addFact d a0 v4 (5 : Int32) m8) fun m10 => yI (1 : Int32) m10) else (yI (0 : Int32) m8)) else (bV (Ta_step d a1 m6) fun m11 => bI (Ta_numberUpTo d a1 (10 : Int32) m11) fun v13 m12 => if ¬ v13 = 0 then (bI (Ta_number d a1 m12) fun v15 m14 => bV (Ta_step d a1 m14) fun m16 => bI (Ta_takeSign d a1 (59 : Int32) m16) fun v18 m17 => if ¬ v18 = 0 then (bV (Pa_addFact d a0 v4 v15 m17) fun m19 => yI (1 : Int32) m19) else (yI (0 : Int32) m17)) else (yI (0 : Int32) m12))) else (yI (0 : Int32) m1) := by
  unfold Pa_readFact
  refine (x_aload1 D23_0 rfl).trans ?_
  refine (x_aload1 D23_1 rfl).trans ?_
  refine (x_aload1 D23_2 rfl).trans ?_
  refine ((x_getI D23_3).trans (gd_t h_a0)).trans ?_
  refine (x_bipush D23_6 (k := 6) (by decide)).trans ?_
  refine (x_cI D23_8 M24 (fun z => by cases z) (I24 _ _ _ _) rfl rfl (ok_i M24 (I24 _ _ _ _) rfl rfl h_a0)).trans (bI_c fun v2 m1 => ?_)
  refine (x_ifne D23_11).trans (i_c ?_ ?_)
  · refine (x_aload1 D23_16 rfl).trans ?_
    refine (x_cL D23_17 M27  (I27 _) rfl rfl (ok_i M27 (I27 _) rfl rfl h_a1)).trans (bL_c fun v4 m3 => ?_)
    refine (x_lstore1 D23_20 (ls' := [.ref a0, .ref a1, .long v4, eU, eU]) rfl rfl).trans ?_
    refine (x_iconst D23_21 (k := 5) (by decide)).trans ?_
    refine (x_istore2 D23_22 (ls' := [.ref a0, .ref a1, .long v4, eU, .int (5 : Int32)]) rfl rfl).trans ?_
    refine (x_aload1 D23_24 rfl).trans ?_
    refine (x_cV D23_25 M15  (I15 _) rfl rfl (ok_i M15 (I15 _) rfl rfl h_a1)).trans (bV_c fun m5 => ?_)
    refine (x_aload1 D23_28 rfl).trans ?_
    refine (x_ldc2 D23_29 R23_29).trans ?_
    refine (x_cI D23_32 M22 (fun z => by cases z) (I22 _ _) rfl rfl (ok_i M22 (I22 _ _) rfl rfl h_a1)).trans (bI_c fun v7 m6 => ?_)
    refine (x_ifeq D23_35).trans (i_c ?_ ?_)
    · refine (x_aload1 D23_63 rfl).trans ?_
      refine (x_bipush D23_64 (k := 59) (by decide)).trans ?_
      refine (x_cI D23_66 M32 (fun z => by cases z) (I32 _ _) rfl rfl (ok_i M32 (I32 _ _) rfl rfl h_a1)).trans (bI_c fun v9 m8 => ?_)
      refine (x_ifne D23_69).trans (i_c ?_ ?_)
      · refine (x_aload1 D23_74 rfl).trans ?_
        refine (x_lload1 D23_75 rfl).trans ?_
        refine (x_iload2 D23_76 rfl).trans ?_
        refine (x_cV D23_78 M34  (I34 _ _ _) rfl rfl (ok_i M34 (I34 _ _ _) rfl rfl h_a0)).trans (bV_c fun m10 => ?_)
        refine (x_iconst D23_81 (k := 1) (by decide)).trans ?_
        exact (x_bret D23_82 M23.2.2.1).trans yB1
      · refine (x_iconst D23_72 (k := 0) (by decide)).trans ?_
        exact (x_bret D23_73 M23.2.2.1).trans yB0
    · refine (x_aload1 D23_38 rfl).trans ?_
      refine (x_cV D23_39 M15  (I15 _) rfl rfl (ok_i M15 (I15 _) rfl rfl h_a1)).trans (bV_c fun m11 => ?_)
      refine (x_aload1 D23_42 rfl).trans ?_
      refine (x_bipush D23_43 (k := 10) (by decide)).trans ?_
      refine (x_cI D23_45 M30 (fun z => by cases z) (I30 _ _) rfl rfl (ok_i M30 (I30 _ _) rfl rfl h_a1)).trans (bI_c fun v13 m12 => ?_)
      refine (x_ifne D23_48).trans (i_c ?_ ?_)
      · refine (x_aload1 D23_53 rfl).trans ?_
        refine (x_cI D23_54 M31 (fun z => by cases z) (I31 _) rfl rfl (ok_i M31 (I31 _) rfl rfl h_a1)).trans (bI_c fun v15 m14 => ?_)
        refine (x_istore2 D23_57 (ls' := [.ref a0, .ref a1, .long v4, eU, .int v15]) rfl rfl).trans ?_
        refine (x_aload1 D23_59 rfl).trans ?_
        refine (x_cV D23_60 M15  (I15 _) rfl rfl (ok_i M15 (I15 _) rfl rfl h_a1)).trans (bV_c fun m16 => ?_)
        refine (x_aload1 D23_63 rfl).trans ?_
        refine (x_bipush D23_64 (k := 59) (by decide)).trans ?_
        refine (x_cI D23_66 M32 (fun z => by cases z) (I32 _ _) rfl rfl (ok_i M32 (I32 _ _) rfl rfl h_a1)).trans (bI_c fun v18 m17 => ?_)
        refine (x_ifne D23_69).trans (i_c ?_ ?_)
        · refine (x_aload1 D23_74 rfl).trans ?_
          refine (x_lload1 D23_75 rfl).trans ?_
          refine (x_iload2 D23_76 rfl).trans ?_
          refine (x_cV D23_78 M34  (I34 _ _ _) rfl rfl (ok_i M34 (I34 _ _ _) rfl rfl h_a0)).trans (bV_c fun m19 => ?_)
          refine (x_iconst D23_81 (k := 1) (by decide)).trans ?_
          exact (x_bret D23_82 M23.2.2.1).trans yB1
        · refine (x_iconst D23_72 (k := 0) (by decide)).trans ?_
          exact (x_bret D23_73 M23.2.2.1).trans yB0
      · refine (x_iconst D23_51 (k := 0) (by decide)).trans ?_
        exact (x_bret D23_52 M23.2.2.1).trans yB0
  · refine (x_iconst D23_14 (k := 0) (by decide)).trans ?_
    exact (x_bret D23_15 M23.2.2.1).trans yB0
theorem D24_0 : decode (mB 24) 0 = .ok (.iload_n 2, 1) := by decide +kernel
theorem D24_1 : decode (mB 24) 1 = .ok (.iload_n 3, 1) := by decide +kernel
theorem D24_2 : BR 24 2 (.if_icmp .lt 9) (9) 11 := ⟨by decide +kernel, by decide, by decide⟩
theorem D24_11 : decode (mB 24) 11 = .ok (.aload_n 1, 1) := by decide +kernel
theorem D24_12 : CS 24 12 15 0 := ⟨.invokevirtual 95, by decide +kernel, by decide +kernel, by decide +kernel, by decide⟩
theorem D24_15 : decode (mB 24) 15 = .ok (.aload_n 1, 1) := by decide +kernel
theorem D24_16 : CS 24 16 26 0 := ⟨.invokevirtual 98, by decide +kernel, by decide +kernel, by decide +kernel, by decide⟩
theorem D24_19 : BR 24 19 (.ifCond .ne 9) (9) 28 := ⟨by decide +kernel, by decide, by decide⟩
theorem D24_28 : decode (mB 24) 28 = .ok (.aload_n 0, 1) := by decide +kernel
theorem D24_29 : decode (mB 24) 29 = .ok (.aload_n 1, 1) := by decide +kernel
theorem D24_30 : CS 24 30 27 0 := ⟨.invokevirtual 102, by decide +kernel, by decide +kernel, by decide +kernel, by decide⟩
theorem D24_33 : CS 24 33 28 0 := ⟨.invokevirtual 106, by decide +kernel, by decide +kernel, by decide +kernel, by decide⟩
theorem D24_36 : BR 24 36 (.ifCond .eq 11) (11) 47 := ⟨by decide +kernel, by decide, by decide⟩
theorem D24_47 : decode (mB 24) 47 = .ok (.iconst 1, 1) := by decide +kernel
theorem D24_48 : BR 24 48 (.goto 4) (4) 52 := ⟨by decide +kernel, by decide, by decide⟩
theorem D24_52 : decode (mB 24) 52 = .ok (.ireturn, 1) := by decide +kernel
theorem D24_39 : decode (mB 24) 39 = .ok (.aload_n 1, 1) := by decide +kernel
theorem D24_40 : decode (mB 24) 40 = .ok (.iconst 3, 1) := by decide +kernel
theorem D24_41 : CS 24 41 25 0 := ⟨.invokevirtual 91, by decide +kernel, by decide +kernel, by decide +kernel, by decide⟩
theorem D24_44 : BR 24 44 (.ifCond .eq 7) (7) 51 := ⟨by decide +kernel, by decide, by decide⟩
theorem D24_51 : decode (mB 24) 51 = .ok (.iconst 0, 1) := by decide +kernel
theorem D24_22 : decode (mB 24) 22 = .ok (.aload_n 1, 1) := by decide +kernel
theorem D24_23 : decode (mB 24) 23 = .ok (.iconst 1, 1) := by decide +kernel
theorem D24_24 : CS 24 24 25 0 := ⟨.invokevirtual 91, by decide +kernel, by decide +kernel, by decide +kernel, by decide⟩
theorem D24_27 : decode (mB 24) 27 = .ok (.ireturn, 1) := by decide +kernel
theorem D24_5 : decode (mB 24) 5 = .ok (.aload_n 1, 1) := by decide +kernel
theorem D24_6 : decode (mB 24) 6 = .ok (.iconst 5, 1) := by decide +kernel
theorem D24_7 : CS 24 7 25 0 := ⟨.invokevirtual 91, by decide +kernel, by decide +kernel, by decide +kernel, by decide⟩
theorem D24_10 : decode (mB 24) 10 = .ok (.ireturn, 1) := by decide +kernel
theorem Pa_startLine_e (d : Nat) (a0 : Nat) (a1 : Nat) (x2 : Int32) (x3 : Int32) (m : eM) (h_a0 : kd a0 = 4) (h_a1 : kd a1 = 8) : Pa_startLine (d + 1) a0 a1 x2 x3 m = if x2 < x3 then (bV (Ta_step d a1 m) fun m1 => bI (Ta_isName d a1 m1) fun v3 m2 => if ¬ v3 = 0 then (bL (Ta_word d a1 m2) fun v5 m4 => bI (Pa_isTold d a0 v5 m4) fun v7 m6 => if v7 = 0 then (yI (1 : Int32) m6) else (bI (Ta_wrong d a1 (3 : Int32) m6) fun v9 m8 => if v9 = 0 then (yI (0 : Int32) m8) else (yI (1 : Int32) m8))) else (bI (Ta_wrong d a1 (1 : Int32) m2) fun v11 m10 => yB v11 m10)) else (bI (Ta_wrong d a1 (5 : Int32) m) fun v13 m12 => yB v13 m12) := by
  unfold Pa_startLine
  refine (x_iload1 D24_0 rfl).trans ?_
  refine (x_iload1 D24_1 rfl).trans ?_
  refine (x_clt D24_2).trans (i_c ?_ ?_)
  · refine (x_aload1 D24_11 rfl).trans ?_
    refine (x_cV D24_12 M15  (I15 _) rfl rfl (ok_i M15 (I15 _) rfl rfl h_a1)).trans (bV_c fun m1 => ?_)
    refine (x_aload1 D24_15 rfl).trans ?_
    refine (x_cI D24_16 M26 (fun z => by cases z) (I26 _) rfl rfl (ok_i M26 (I26 _) rfl rfl h_a1)).trans (bI_c fun v3 m2 => ?_)
    refine (x_ifne D24_19).trans (i_c ?_ ?_)
    · refine (x_aload1 D24_28 rfl).trans ?_
      refine (x_aload1 D24_29 rfl).trans ?_
      refine (x_cL D24_30 M27  (I27 _) rfl rfl (ok_i M27 (I27 _) rfl rfl h_a1)).trans (bL_c fun v5 m4 => ?_)
      refine (x_cI D24_33 M28 (fun z => by cases z) (I28 _ _) rfl rfl (ok_i M28 (I28 _ _) rfl rfl h_a0)).trans (bI_c fun v7 m6 => ?_)
      refine (x_ifeq D24_36).trans (i_c ?_ ?_)
      · refine (x_iconst D24_47 (k := 1) (by decide)).trans ?_
        refine (x_goto D24_48).trans ?_
        exact (x_bret D24_52 M24.2.2.1).trans yB1
      · refine (x_aload1 D24_39 rfl).trans ?_
        refine (x_iconst D24_40 (k := 3) (by decide)).trans ?_
        refine (x_cI D24_41 M25 (fun z => by cases z) (I25 _ _) rfl rfl (ok_i M25 (I25 _ _) rfl rfl h_a1)).trans (bI_c fun v9 m8 => ?_)
        refine (x_ifeq D24_44).trans (i_c ?_ ?_)
        · refine (x_iconst D24_51 (k := 0) (by decide)).trans ?_
          exact (x_bret D24_52 M24.2.2.1).trans yB0
        · refine (x_iconst D24_47 (k := 1) (by decide)).trans ?_
          refine (x_goto D24_48).trans ?_
          exact (x_bret D24_52 M24.2.2.1).trans yB1
    · refine (x_aload1 D24_22 rfl).trans ?_
      refine (x_iconst D24_23 (k := 1) (by decide)).trans ?_
      refine (x_cI D24_24 M25 (fun z => by cases z) (I25 _ _) rfl rfl (ok_i M25 (I25 _ _) rfl rfl h_a1)).trans (bI_c fun v11 m10 => ?_)
      exact x_bret D24_27 M24.2.2.1
  · refine (x_aload1 D24_5 rfl).trans ?_
    refine (x_iconst D24_6 (k := 5) (by decide)).trans ?_
    refine (x_cI D24_7 M25 (fun z => by cases z) (I25 _ _) rfl rfl (ok_i M25 (I25 _ _) rfl rfl h_a1)).trans (bI_c fun v13 m12 => ?_)
    exact x_bret D24_10 M24.2.2.1
theorem D28_0 : decode (mB 28) 0 = .ok (.aload_n 0, 1) := by decide +kernel
theorem D28_1 : GF 28 1 4 4 2 := ⟨9, true, by decide +kernel, by decide +kernel⟩
theorem D28_4 : decode (mB 28) 4 = .ok (.aload_n 0, 1) := by decide +kernel
theorem D28_5 : GF 28 5 4 0 0 := ⟨109, false, by decide +kernel, by decide +kernel⟩
theorem D28_8 : decode (mB 28) 8 = .ok (.lload_n 1, 1) := by decide +kernel
theorem D28_9 : CS 28 9 29 2 := ⟨.invokestatic 163, by decide +kernel, by decide +kernel, by decide +kernel, by decide⟩
theorem D28_12 : decode (mB 28) 12 = .ok (.iconst (-1), 1) := by decide +kernel
theorem D28_13 : BR 28 13 (.if_icmp .ne 35) (35) 48 := ⟨by decide +kernel, by decide, by decide⟩
theorem D28_48 : decode (mB 28) 48 = .ok (.iconst 1, 1) := by decide +kernel
theorem D28_49 : BR 28 49 (.goto 4) (4) 53 := ⟨by decide +kernel, by decide, by decide⟩
theorem D28_53 : decode (mB 28) 53 = .ok (.ireturn, 1) := by decide +kernel
theorem D28_16 : decode (mB 28) 16 = .ok (.aload_n 0, 1) := by decide +kernel
theorem D28_17 : GF 28 17 4 6 2 := ⟨19, true, by decide +kernel, by decide +kernel⟩
theorem D28_20 : decode (mB 28) 20 = .ok (.aload_n 0, 1) := by decide +kernel
theorem D28_21 : GF 28 21 4 1 0 := ⟨133, false, by decide +kernel, by decide +kernel⟩
theorem D28_24 : decode (mB 28) 24 = .ok (.lload_n 1, 1) := by decide +kernel
theorem D28_25 : CS 28 25 29 2 := ⟨.invokestatic 163, by decide +kernel, by decide +kernel, by decide +kernel, by decide⟩
theorem D28_28 : decode (mB 28) 28 = .ok (.iconst (-1), 1) := by decide +kernel
theorem D28_29 : BR 28 29 (.if_icmp .ne 19) (19) 48 := ⟨by decide +kernel, by decide, by decide⟩
theorem D28_32 : decode (mB 28) 32 = .ok (.aload_n 0, 1) := by decide +kernel
theorem D28_33 : GF 28 33 4 8 2 := ⟨25, true, by decide +kernel, by decide +kernel⟩
theorem D28_36 : decode (mB 28) 36 = .ok (.aload_n 0, 1) := by decide +kernel
theorem D28_37 : GF 28 37 4 2 0 := ⟨141, false, by decide +kernel, by decide +kernel⟩
theorem D28_40 : decode (mB 28) 40 = .ok (.lload_n 1, 1) := by decide +kernel
theorem D28_41 : CS 28 41 29 2 := ⟨.invokestatic 163, by decide +kernel, by decide +kernel, by decide +kernel, by decide⟩
theorem D28_44 : decode (mB 28) 44 = .ok (.iconst (-1), 1) := by decide +kernel
theorem D28_45 : BR 28 45 (.if_icmp .eq 7) (7) 52 := ⟨by decide +kernel, by decide, by decide⟩
theorem D28_52 : decode (mB 28) 52 = .ok (.iconst 0, 1) := by decide +kernel
theorem Pa_isTold_e (d : Nat) (a0 : Nat) (y1 : Int64) (m : eM) (h_a0 : kd a0 = 4) : Pa_isTold (d + 1) a0 y1 m = bR (gR m a0 4) fun r1 => bI (Pa_find d r1 (gI m a0 0) y1 m) fun v3 m2 => if ¬ v3 = (-1 : Int32) then (yI (1 : Int32) m2) else (bR (gR m2 a0 6) fun r4 => bI (Pa_find d r4 (gI m2 a0 1) y1 m2) fun v6 m5 => if ¬ v6 = (-1 : Int32) then (yI (1 : Int32) m5) else (bR (gR m5 a0 8) fun r7 => bI (Pa_find d r7 (gI m5 a0 2) y1 m5) fun v9 m8 => if v9 = (-1 : Int32) then (yI (0 : Int32) m8) else (yI (1 : Int32) m8))) := by
  unfold Pa_isTold
  refine (x_aload1 D28_0 rfl).trans ?_
  refine ((x_getR D28_1).trans (gd_t h_a0)).trans (bR_c fun r1 => ?_)
  refine (x_aload1 D28_4 rfl).trans ?_
  refine ((x_getI D28_5).trans (gd_t h_a0)).trans ?_
  refine (x_lload1 D28_8 rfl).trans ?_
  refine (x_cI D28_9 M29 (fun z => by cases z) (I29 _ _ _) rfl rfl (ok_s M29 (I29 _ _ _) rfl rfl)).trans (bI_c fun v3 m2 => ?_)
  refine (x_iconst D28_12 (k := -1) (by decide)).trans ?_
  refine (x_cne D28_13).trans (i_c ?_ ?_)
  · refine (x_iconst D28_48 (k := 1) (by decide)).trans ?_
    refine (x_goto D28_49).trans ?_
    exact (x_bret D28_53 M28.2.2.1).trans yB1
  · refine (x_aload1 D28_16 rfl).trans ?_
    refine ((x_getR D28_17).trans (gd_t h_a0)).trans (bR_c fun r4 => ?_)
    refine (x_aload1 D28_20 rfl).trans ?_
    refine ((x_getI D28_21).trans (gd_t h_a0)).trans ?_
    refine (x_lload1 D28_24 rfl).trans ?_
    refine (x_cI D28_25 M29 (fun z => by cases z) (I29 _ _ _) rfl rfl (ok_s M29 (I29 _ _ _) rfl rfl)).trans (bI_c fun v6 m5 => ?_)
    refine (x_iconst D28_28 (k := -1) (by decide)).trans ?_
    refine (x_cne D28_29).trans (i_c ?_ ?_)
    · refine (x_iconst D28_48 (k := 1) (by decide)).trans ?_
      refine (x_goto D28_49).trans ?_
      exact (x_bret D28_53 M28.2.2.1).trans yB1
    · refine (x_aload1 D28_32 rfl).trans ?_
      refine ((x_getR D28_33).trans (gd_t h_a0)).trans (bR_c fun r7 => ?_)
      refine (x_aload1 D28_36 rfl).trans ?_
      refine ((x_getI D28_37).trans (gd_t h_a0)).trans ?_
      refine (x_lload1 D28_40 rfl).trans ?_
      refine (x_cI D28_41 M29 (fun z => by cases z) (I29 _ _ _) rfl rfl (ok_s M29 (I29 _ _ _) rfl rfl)).trans (bI_c fun v9 m8 => ?_)
      refine (x_iconst D28_44 (k := -1) (by decide)).trans ?_
      refine (x_ceq D28_45).trans (i_c ?_ ?_)
      · refine (x_iconst D28_52 (k := 0) (by decide)).trans ?_
        exact (x_bret D28_53 M28.2.2.1).trans yB0
      · refine (x_iconst D28_48 (k := 1) (by decide)).trans ?_
        refine (x_goto D28_49).trans ?_
        exact (x_bret D28_53 M28.2.2.1).trans yB1
theorem D29_0 : decode (mB 29) 0 = .ok (.iconst 0, 1) := by decide +kernel
theorem D29_1 : decode (mB 29) 1 = .ok (.istore 4, 2) := by decide +kernel
theorem D29_3 : decode (mB 29) 3 = .ok (.iload 4, 2) := by decide +kernel
theorem D29_5 : decode (mB 29) 5 = .ok (.iload_n 1, 1) := by decide +kernel
theorem D29_6 : BR 29 6 (.if_icmp .ge 28) (28) 34 := ⟨by decide +kernel, by decide, by decide⟩
theorem D29_34 : decode (mB 29) 34 = .ok (.iconst (-1), 1) := by decide +kernel
theorem D29_35 : decode (mB 29) 35 = .ok (.ireturn, 1) := by decide +kernel
theorem D29_9 : decode (mB 29) 9 = .ok (.iload 4, 2) := by decide +kernel
theorem D29_11 : decode (mB 29) 11 = .ok (.aload_n 0, 1) := by decide +kernel
theorem D29_12 : decode (mB 29) 12 = .ok (.arraylength, 1) := by decide +kernel
theorem D29_13 : BR 29 13 (.if_icmp .ge 21) (21) 34 := ⟨by decide +kernel, by decide, by decide⟩
theorem D29_16 : decode (mB 29) 16 = .ok (.aload_n 0, 1) := by decide +kernel
theorem D29_17 : decode (mB 29) 17 = .ok (.iload 4, 2) := by decide +kernel
theorem D29_19 : decode (mB 29) 19 = .ok (.laload, 1) := by decide +kernel
theorem D29_20 : decode (mB 29) 20 = .ok (.lload_n 2, 1) := by decide +kernel
theorem D29_21 : decode (mB 29) 21 = .ok (.lcmp, 1) := by decide +kernel
theorem D29_22 : BR 29 22 (.ifCond .ne 6) (6) 28 := ⟨by decide +kernel, by decide, by decide⟩
theorem D29_28 : decode (mB 29) 28 = .ok (.iinc 4 1, 3) := by decide +kernel
theorem D29_31 : BR 29 31 (.goto (-28)) (-28) 3 := ⟨by decide +kernel, by decide, by decide⟩
theorem D29_25 : decode (mB 29) 25 = .ok (.iload 4, 2) := by decide +kernel
theorem D29_27 : decode (mB 29) 27 = .ok (.ireturn, 1) := by decide +kernel
theorem Pa_find_e (d : Nat) (a0 : Nat) (x1 : Int32) (y2 : Int64) (m : eM)  : Pa_find d a0 x1 y2 m = Pa_find_3 d a0 x1 y2 (0 : Int32) m := by
  unfold Pa_find
  refine (x_iconst D29_0 (k := 0) (by decide)).trans ?_
  refine (x_istore2 D29_1 (ls' := [.ref a0, .int x1, .long y2, eU, .int (0 : Int32)]) rfl rfl).trans ?_
  rfl
theorem Pa_find_3_e (d : Nat) (a0 : Nat) (x1 : Int32) (y2 : Int64) (x4 : Int32) (m : eM)  : Pa_find_3 d a0 x1 y2 x4 m = if x1 ≤ x4 then (yI (-1 : Int32) m) else (gl a0 (if ((aln m a0).toInt32) ≤ x4 then (yI (-1 : Int32) m) else (ga m a0 21 x4 (if ¬ (lg_cmp (gL m a0 x4.toNatClampNeg) y2) = 0 then (Pa_find_3 d a0 x1 y2 (x4 + (1 : Int32)) m) else (yI x4 m))))) := by
  unfold Pa_find_3
  refine (x_iload2 D29_3 rfl).trans ?_
  refine (x_iload1 D29_5 rfl).trans ?_
  refine (x_cge D29_6).trans (i_c ?_ ?_)
  · refine (x_iconst D29_34 (k := -1) (by decide)).trans ?_
    exact x_iret D29_35 M29.2.2.1
  · refine (x_iload2 D29_9 rfl).trans ?_
    refine (x_aload1 D29_11 rfl).trans ?_
    refine (x_alen D29_12).trans (gl_c ?_)
    refine (x_cge D29_13).trans (i_c ?_ ?_)
    · refine (x_iconst D29_34 (k := -1) (by decide)).trans ?_
      exact x_iret D29_35 M29.2.2.1
    · refine (x_aload1 D29_16 rfl).trans ?_
      refine (x_iload2 D29_17 rfl).trans ?_
      refine (x_laload D29_19).trans (ga_c ?_)
      refine (x_lload1 D29_20 rfl).trans ?_
      refine (x_lcmp D29_21).trans ?_
      refine (x_ifne D29_22).trans (i_c ?_ ?_)
      · refine (x_iinc D29_28 rfl (k := 1) (by decide) (ls' := [.ref a0, .int x1, .long y2, eU, .int (x4 + (1 : Int32))]) rfl).trans ?_
        refine (x_goto D29_31).trans ?_
        rfl
      · refine (x_iload2 D29_25 rfl).trans ?_
        exact x_iret D29_27 M29.2.2.1
theorem D34_0 : decode (mB 34) 0 = .ok (.aload_n 0, 1) := by decide +kernel
theorem D34_1 : GF 34 1 4 0 0 := ⟨109, false, by decide +kernel, by decide +kernel⟩
theorem D34_4 : BR 34 4 (.ifCond .lt 77) (77) 81 := ⟨by decide +kernel, by decide, by decide⟩
theorem D34_81 : decode (mB 34) 81 = .ok (.return_, 1) := by decide +kernel
theorem D34_7 : decode (mB 34) 7 = .ok (.aload_n 0, 1) := by decide +kernel
theorem D34_8 : GF 34 8 4 0 0 := ⟨109, false, by decide +kernel, by decide +kernel⟩
theorem D34_11 : decode (mB 34) 11 = .ok (.aload_n 0, 1) := by decide +kernel
theorem D34_12 : GF 34 12 4 4 2 := ⟨9, true, by decide +kernel, by decide +kernel⟩
theorem D34_15 : decode (mB 34) 15 = .ok (.arraylength, 1) := by decide +kernel
theorem D34_16 : BR 34 16 (.if_icmp .ge 65) (65) 81 := ⟨by decide +kernel, by decide, by decide⟩
theorem D34_19 : decode (mB 34) 19 = .ok (.aload_n 0, 1) := by decide +kernel
theorem D34_20 : GF 34 20 4 0 0 := ⟨109, false, by decide +kernel, by decide +kernel⟩
theorem D34_23 : decode (mB 34) 23 = .ok (.aload_n 0, 1) := by decide +kernel
theorem D34_24 : GF 34 24 4 5 2 := ⟨15, true, by decide +kernel, by decide +kernel⟩
theorem D34_27 : decode (mB 34) 27 = .ok (.arraylength, 1) := by decide +kernel
theorem D34_28 : BR 34 28 (.if_icmp .ge 53) (53) 81 := ⟨by decide +kernel, by decide, by decide⟩
theorem D34_31 : decode (mB 34) 31 = .ok (.aload_n 0, 1) := by decide +kernel
theorem D34_32 : GF 34 32 4 4 2 := ⟨9, true, by decide +kernel, by decide +kernel⟩
theorem D34_35 : decode (mB 34) 35 = .ok (.aload_n 0, 1) := by decide +kernel
theorem D34_36 : GF 34 36 4 0 0 := ⟨109, false, by decide +kernel, by decide +kernel⟩
theorem D34_39 : decode (mB 34) 39 = .ok (.lload_n 1, 1) := by decide +kernel
theorem D34_40 : decode (mB 34) 40 = .ok (.lastore, 1) := by decide +kernel
theorem D34_41 : decode (mB 34) 41 = .ok (.aload_n 0, 1) := by decide +kernel
theorem D34_42 : GF 34 42 4 5 2 := ⟨15, true, by decide +kernel, by decide +kernel⟩
theorem D34_45 : decode (mB 34) 45 = .ok (.aload_n 0, 1) := by decide +kernel
theorem D34_46 : GF 34 46 4 0 0 := ⟨109, false, by decide +kernel, by decide +kernel⟩
theorem D34_49 : decode (mB 34) 49 = .ok (.iload_n 3, 1) := by decide +kernel
theorem D34_50 : decode (mB 34) 50 = .ok (.iastore, 1) := by decide +kernel
theorem D34_51 : decode (mB 34) 51 = .ok (.aload_n 0, 1) := by decide +kernel
theorem D34_52 : decode (mB 34) 52 = .ok (.dup, 1) := by decide +kernel
theorem D34_53 : GF 34 53 4 15 1 := ⟨47, false, by decide +kernel, by decide +kernel⟩
theorem D34_56 : decode (mB 34) 56 = .ok (.aload_n 0, 1) := by decide +kernel
theorem D34_57 : GF 34 57 4 15 1 := ⟨47, false, by decide +kernel, by decide +kernel⟩
theorem D34_60 : decode (mB 34) 60 = .ok (.iconst 1, 1) := by decide +kernel
theorem D34_61 : decode (mB 34) 61 = .ok (.aload_n 0, 1) := by decide +kernel
theorem D34_62 : GF 34 62 4 0 0 := ⟨109, false, by decide +kernel, by decide +kernel⟩
theorem D34_65 : decode (mB 34) 65 = .ok (.ishl, 1) := by decide +kernel
theorem D34_66 : decode (mB 34) 66 = .ok (.lshl, 1) := by decide +kernel
theorem D34_67 : decode (mB 34) 67 = .ok (.lor, 1) := by decide +kernel
theorem D34_68 : PF 34 68 4 15 1 := ⟨47, false, by decide +kernel, by decide +kernel, by decide +kernel, by decide⟩
theorem D34_71 : decode (mB 34) 71 = .ok (.aload_n 0, 1) := by decide +kernel
theorem D34_72 : decode (mB 34) 72 = .ok (.dup, 1) := by decide +kernel
theorem D34_73 : GF 34 73 4 0 0 := ⟨109, false, by decide +kernel, by decide +kernel⟩
theorem D34_76 : decode (mB 34) 76 = .ok (.iconst 1, 1) := by decide +kernel
theorem D34_77 : decode (mB 34) 77 = .ok (.iadd, 1) := by decide +kernel
theorem D34_78 : PF 34 78 4 0 0 := ⟨109, false, by decide +kernel, by decide +kernel, by decide +kernel, by decide⟩
theorem Pa_addFact_e (d : Nat) (a0 : Nat) (y1 : Int64) (x3 : Int32) (m : eM) (h_a0 : kd a0 = 4) : Pa_addFact d a0 y1 x3 m = if (gI m a0 0) < 0 then (yV m) else (bR (gR m a0 4) fun r1 => gl r1 (if ((aln m r1).toInt32) ≤ (gI m a0 0) then (yV m) else (bR (gR m a0 5) fun r2 => gl r2 (if ((aln m r2).toInt32) ≤ (gI m a0 0) then (yV m) else (bR (gR m a0 4) fun r3 => gw m r3 21 (gI m a0 0) (mJ m r3 (gI m a0 0).toNatClampNeg y1 fun m4 => bR (gR m4 a0 5) fun r5 => gw m4 r5 20 (gI m4 a0 0) (mI m4 r5 (gI m4 a0 0).toNatClampNeg x3 fun m6 => mJ m6 a0 15 ((gL m6 a0 15) ||| ((gL m6 a0 15) <<< (((1 : Int32) <<< ((gI m6 a0 0) &&& 31)).toInt64 &&& 63))) fun m7 => mI m7 a0 0 ((gI m7 a0 0) + (1 : Int32)) fun m8 => yV m8))))))) := by
  unfold Pa_addFact
  refine (x_aload1 D34_0 rfl).trans ?_
  refine ((x_getI D34_1).trans (gd_t h_a0)).trans ?_
  refine (x_iflt D34_4).trans (i_c ?_ ?_)
  · exact x_vret D34_81 M34.2.2.1
  · refine (x_aload1 D34_7 rfl).trans ?_
    refine ((x_getI D34_8).trans (gd_t h_a0)).trans ?_
    refine (x_aload1 D34_11 rfl).trans ?_
    refine ((x_getR D34_12).trans (gd_t h_a0)).trans (bR_c fun r1 => ?_)
    refine (x_alen D34_15).trans (gl_c ?_)
    refine (x_cge D34_16).trans (i_c ?_ ?_)
    · exact x_vret D34_81 M34.2.2.1
    · refine (x_aload1 D34_19 rfl).trans ?_
      refine ((x_getI D34_20).trans (gd_t h_a0)).trans ?_
      refine (x_aload1 D34_23 rfl).trans ?_
      refine ((x_getR D34_24).trans (gd_t h_a0)).trans (bR_c fun r2 => ?_)
      refine (x_alen D34_27).trans (gl_c ?_)
      refine (x_cge D34_28).trans (i_c ?_ ?_)
      · exact x_vret D34_81 M34.2.2.1
      · refine (x_aload1 D34_31 rfl).trans ?_
        refine ((x_getR D34_32).trans (gd_t h_a0)).trans (bR_c fun r3 => ?_)
        refine (x_aload1 D34_35 rfl).trans ?_
        refine ((x_getI D34_36).trans (gd_t h_a0)).trans ?_
        refine (x_lload1 D34_39 rfl).trans ?_
        refine (x_lastore D34_40).trans (gw_c ?_)
        refine mJ_i (fun m4 => X d 34 41 [.ref a0, .long y1, eU, .int x3] [] m4) _ ?_
        intro m4
        refine (x_aload1 D34_41 rfl).trans ?_
        refine ((x_getR D34_42).trans (gd_t h_a0)).trans (bR_c fun r5 => ?_)
        refine (x_aload1 D34_45 rfl).trans ?_
        refine ((x_getI D34_46).trans (gd_t h_a0)).trans ?_
        refine (x_iload1 D34_49 rfl).trans ?_
        refine (x_iastore D34_50).trans (gw_c ?_)
        refine mI_i (fun m6 => X d 34 51 [.ref a0, .long y1, eU, .int x3] [] m6) _ ?_
        intro m6
        refine (x_aload1 D34_51 rfl).trans ?_
        refine (x_dup1 D34_52 rfl).trans ?_
        refine ((x_getL D34_53).trans (gd_t h_a0)).trans ?_
        refine (x_aload1 D34_56 rfl).trans ?_
        refine ((x_getL D34_57).trans (gd_t h_a0)).trans ?_
        refine (x_iconst D34_60 (k := 1) (by decide)).trans ?_
        refine (x_aload1 D34_61 rfl).trans ?_
        refine ((x_getI D34_62).trans (gd_t h_a0)).trans ?_
        refine (x_ishl D34_65).trans ?_
        refine (x_lshl D34_66).trans ?_
        refine (x_lor D34_67).trans ?_
        refine (x_putL D34_68 h_a0).trans ?_
        refine mJ_i (fun m7 => X d 34 71 [.ref a0, .long y1, eU, .int x3] [] m7) _ ?_
        intro m7
        refine (x_aload1 D34_71 rfl).trans ?_
        refine (x_dup1 D34_72 rfl).trans ?_
        refine ((x_getI D34_73).trans (gd_t h_a0)).trans ?_
        refine (x_iconst D34_76 (k := 1) (by decide)).trans ?_
        refine (x_iadd D34_77).trans ?_
        refine (x_putI D34_78 h_a0).trans ?_
        refine mI_i (fun m8 => X d 34 81 [.ref a0, .long y1, eU, .int x3] [] m8) _ ?_
        intro m8
        exact x_vret D34_81 M34.2.2.1
theorem D35_0 : decode (mB 35) 0 = .ok (.aload_n 0, 1) := by decide +kernel
theorem D35_1 : decode (mB 35) 1 = .ok (.aload_n 1, 1) := by decide +kernel
theorem D35_2 : decode (mB 35) 2 = .ok (.aload_n 0, 1) := by decide +kernel
theorem D35_3 : GF 35 3 4 1 0 := ⟨133, false, by decide +kernel, by decide +kernel⟩
theorem D35_6 : decode (mB 35) 6 = .ok (.bipush 6, 2) := by decide +kernel
theorem D35_8 : CS 35 8 24 0 := ⟨.invokevirtual 113, by decide +kernel, by decide +kernel, by decide +kernel, by decide⟩
theorem D35_11 : BR 35 11 (.ifCond .ne 5) (5) 16 := ⟨by decide +kernel, by decide, by decide⟩
theorem D35_16 : decode (mB 35) 16 = .ok (.aload_n 1, 1) := by decide +kernel
theorem D35_17 : CS 35 17 27 0 := ⟨.invokevirtual 102, by decide +kernel, by decide +kernel, by decide +kernel, by decide⟩
theorem D35_20 : decode (mB 35) 20 = .ok (.lstore_n 2, 1) := by decide +kernel
theorem D35_21 : decode (mB 35) 21 = .ok (.aload_n 1, 1) := by decide +kernel
theorem D35_22 : CS 35 22 15 0 := ⟨.invokevirtual 95, by decide +kernel, by decide +kernel, by decide +kernel, by decide⟩
theorem D35_25 : decode (mB 35) 25 = .ok (.aload_n 1, 1) := by decide +kernel
theorem R35_26 : lRes (mC 35) 136 = some (27696016923389543) := by decide +kernel
theorem D35_26 : decode (mB 35) 26 = .ok (.ldc2_w 136, 3) := by decide +kernel
theorem D35_29 : CS 35 29 36 0 := ⟨.invokevirtual 85, by decide +kernel, by decide +kernel, by decide +kernel, by decide⟩
theorem D35_32 : BR 35 32 (.ifCond .eq 13) (13) 45 := ⟨by decide +kernel, by decide, by decide⟩
theorem D35_45 : decode (mB 35) 45 = .ok (.iconst 0, 1) := by decide +kernel
theorem D35_46 : decode (mB 35) 46 = .ok (.ireturn, 1) := by decide +kernel
theorem D35_35 : decode (mB 35) 35 = .ok (.aload_n 1, 1) := by decide +kernel
theorem D35_36 : decode (mB 35) 36 = .ok (.sipush 359, 3) := by decide +kernel
theorem D35_39 : CS 35 39 30 0 := ⟨.invokevirtual 119, by decide +kernel, by decide +kernel, by decide +kernel, by decide⟩
theorem D35_42 : BR 35 42 (.ifCond .ne 5) (5) 47 := ⟨by decide +kernel, by decide, by decide⟩
theorem D35_47 : decode (mB 35) 47 = .ok (.aload_n 1, 1) := by decide +kernel
theorem D35_48 : CS 35 48 31 0 := ⟨.invokevirtual 122, by decide +kernel, by decide +kernel, by decide +kernel, by decide⟩
theorem D35_51 : decode (mB 35) 51 = .ok (.istore 4, 2) := by decide +kernel
theorem D35_53 : decode (mB 35) 53 = .ok (.aload_n 1, 1) := by decide +kernel
theorem D35_54 : CS 35 54 15 0 := ⟨.invokevirtual 95, by decide +kernel, by decide +kernel, by decide +kernel, by decide⟩
theorem D35_57 : decode (mB 35) 57 = .ok (.aload_n 1, 1) := by decide +kernel
theorem D35_58 : decode (mB 35) 58 = .ok (.bipush 59, 2) := by decide +kernel
theorem D35_60 : CS 35 60 32 0 := ⟨.invokevirtual 125, by decide +kernel, by decide +kernel, by decide +kernel, by decide⟩
theorem D35_63 : BR 35 63 (.ifCond .ne 5) (5) 68 := ⟨by decide +kernel, by decide, by decide⟩
theorem D35_68 : decode (mB 35) 68 = .ok (.aload_n 0, 1) := by decide +kernel
theorem D35_69 : decode (mB 35) 69 = .ok (.lload_n 2, 1) := by decide +kernel
theorem D35_70 : decode (mB 35) 70 = .ok (.iload 4, 2) := by decide +kernel
theorem D35_72 : CS 35 72 37 0 := ⟨.invokevirtual 138, by decide +kernel, by decide +kernel, by decide +kernel, by decide⟩
theorem D35_75 : decode (mB 35) 75 = .ok (.iconst 1, 1) := by decide +kernel
theorem D35_76 : decode (mB 35) 76 = .ok (.ireturn, 1) := by decide +kernel
theorem D35_66 : decode (mB 35) 66 = .ok (.iconst 0, 1) := by decide +kernel
theorem D35_67 : decode (mB 35) 67 = .ok (.ireturn, 1) := by decide +kernel
theorem D35_14 : decode (mB 35) 14 = .ok (.iconst 0, 1) := by decide +kernel
theorem D35_15 : decode (mB 35) 15 = .ok (.ireturn, 1) := by decide +kernel
theorem Pa_readPlace_e (d : Nat) (a0 : Nat) (a1 : Nat) (m : eM) (h_a0 : kd a0 = 4) (h_a1 : kd a1 = 8) : Pa_readPlace (d + 1) a0 a1 m = bI (Pa_startLine d a0 a1 (gI m a0 1) (6 : Int32) m) fun v2 m1 => if ¬ v2 = 0 then (bL (Ta_word d a1 m1) fun v4 m3 => bV (Ta_step d a1 m3) fun m5 => bI (Ta_takeWord d a1 (27696016923389543 : Int64) m5) fun v7 m6 => if v7 = 0 then (yI (0 : Int32) m6) else (bI (Ta_numberUpTo d a1 (359 : Int32) m6) fun v9 m8 => if ¬ v9 = 0 then (bI (Ta_number d a1 m8) fun v11 m10 => bV (Ta_step d a1 m10) fun m12 => bI (Ta_takeSign d a1 (59 : Int32) m12) fun v14 m13 => if ¬ v14 = 0 then (bV (Pa_addPlace d a0 v4 v11 m13) fun m15 => yI (1 : Int32) m15) else (yI (0 : Int32) m13)) else (yI (0 : Int32) m8))) else (yI (0 : Int32) m1) := by
  unfold Pa_readPlace
  refine (x_aload1 D35_0 rfl).trans ?_
  refine (x_aload1 D35_1 rfl).trans ?_
  refine (x_aload1 D35_2 rfl).trans ?_
  refine ((x_getI D35_3).trans (gd_t h_a0)).trans ?_
  refine (x_bipush D35_6 (k := 6) (by decide)).trans ?_
  refine (x_cI D35_8 M24 (fun z => by cases z) (I24 _ _ _ _) rfl rfl (ok_i M24 (I24 _ _ _ _) rfl rfl h_a0)).trans (bI_c fun v2 m1 => ?_)
  refine (x_ifne D35_11).trans (i_c ?_ ?_)
  · refine (x_aload1 D35_16 rfl).trans ?_
    refine (x_cL D35_17 M27  (I27 _) rfl rfl (ok_i M27 (I27 _) rfl rfl h_a1)).trans (bL_c fun v4 m3 => ?_)
    refine (x_lstore1 D35_20 (ls' := [.ref a0, .ref a1, .long v4, eU, eU]) rfl rfl).trans ?_
    refine (x_aload1 D35_21 rfl).trans ?_
    refine (x_cV D35_22 M15  (I15 _) rfl rfl (ok_i M15 (I15 _) rfl rfl h_a1)).trans (bV_c fun m5 => ?_)
    refine (x_aload1 D35_25 rfl).trans ?_
    refine (x_ldc2 D35_26 R35_26).trans ?_
    refine (x_cI D35_29 M36 (fun z => by cases z) (I36 _ _) rfl rfl (ok_i M36 (I36 _ _) rfl rfl h_a1)).trans (bI_c fun v7 m6 => ?_)
    refine (x_ifeq D35_32).trans (i_c ?_ ?_)
    · refine (x_iconst D35_45 (k := 0) (by decide)).trans ?_
      exact (x_bret D35_46 M35.2.2.1).trans yB0
    · refine (x_aload1 D35_35 rfl).trans ?_
      refine (x_sipush D35_36 (k := 359) (by decide)).trans ?_
      refine (x_cI D35_39 M30 (fun z => by cases z) (I30 _ _) rfl rfl (ok_i M30 (I30 _ _) rfl rfl h_a1)).trans (bI_c fun v9 m8 => ?_)
      refine (x_ifne D35_42).trans (i_c ?_ ?_)
      · refine (x_aload1 D35_47 rfl).trans ?_
        refine (x_cI D35_48 M31 (fun z => by cases z) (I31 _) rfl rfl (ok_i M31 (I31 _) rfl rfl h_a1)).trans (bI_c fun v11 m10 => ?_)
        refine (x_istore2 D35_51 (ls' := [.ref a0, .ref a1, .long v4, eU, .int v11]) rfl rfl).trans ?_
        refine (x_aload1 D35_53 rfl).trans ?_
        refine (x_cV D35_54 M15  (I15 _) rfl rfl (ok_i M15 (I15 _) rfl rfl h_a1)).trans (bV_c fun m12 => ?_)
        refine (x_aload1 D35_57 rfl).trans ?_
        refine (x_bipush D35_58 (k := 59) (by decide)).trans ?_
        refine (x_cI D35_60 M32 (fun z => by cases z) (I32 _ _) rfl rfl (ok_i M32 (I32 _ _) rfl rfl h_a1)).trans (bI_c fun v14 m13 => ?_)
        refine (x_ifne D35_63).trans (i_c ?_ ?_)
        · refine (x_aload1 D35_68 rfl).trans ?_
          refine (x_lload1 D35_69 rfl).trans ?_
          refine (x_iload2 D35_70 rfl).trans ?_
          refine (x_cV D35_72 M37  (I37 _ _ _) rfl rfl (ok_i M37 (I37 _ _ _) rfl rfl h_a0)).trans (bV_c fun m15 => ?_)
          refine (x_iconst D35_75 (k := 1) (by decide)).trans ?_
          exact (x_bret D35_76 M35.2.2.1).trans yB1
        · refine (x_iconst D35_66 (k := 0) (by decide)).trans ?_
          exact (x_bret D35_67 M35.2.2.1).trans yB0
      · refine (x_iconst D35_45 (k := 0) (by decide)).trans ?_
        exact (x_bret D35_46 M35.2.2.1).trans yB0
  · refine (x_iconst D35_14 (k := 0) (by decide)).trans ?_
    exact (x_bret D35_15 M35.2.2.1).trans yB0
theorem D37_0 : decode (mB 37) 0 = .ok (.aload_n 0, 1) := by decide +kernel
theorem D37_1 : GF 37 1 4 1 0 := ⟨133, false, by decide +kernel, by decide +kernel⟩
theorem D37_4 : BR 37 4 (.ifCond .lt 57) (57) 61 := ⟨by decide +kernel, by decide, by decide⟩
theorem D37_61 : decode (mB 37) 61 = .ok (.return_, 1) := by decide +kernel
theorem D37_7 : decode (mB 37) 7 = .ok (.aload_n 0, 1) := by decide +kernel
theorem D37_8 : GF 37 8 4 1 0 := ⟨133, false, by decide +kernel, by decide +kernel⟩
theorem D37_11 : decode (mB 37) 11 = .ok (.aload_n 0, 1) := by decide +kernel
theorem D37_12 : GF 37 12 4 6 2 := ⟨19, true, by decide +kernel, by decide +kernel⟩
theorem D37_15 : decode (mB 37) 15 = .ok (.arraylength, 1) := by decide +kernel
theorem D37_16 : BR 37 16 (.if_icmp .ge 45) (45) 61 := ⟨by decide +kernel, by decide, by decide⟩
theorem D37_19 : decode (mB 37) 19 = .ok (.aload_n 0, 1) := by decide +kernel
theorem D37_20 : GF 37 20 4 1 0 := ⟨133, false, by decide +kernel, by decide +kernel⟩
theorem D37_23 : decode (mB 37) 23 = .ok (.aload_n 0, 1) := by decide +kernel
theorem D37_24 : GF 37 24 4 7 2 := ⟨22, true, by decide +kernel, by decide +kernel⟩
theorem D37_27 : decode (mB 37) 27 = .ok (.arraylength, 1) := by decide +kernel
theorem D37_28 : BR 37 28 (.if_icmp .ge 33) (33) 61 := ⟨by decide +kernel, by decide, by decide⟩
theorem D37_31 : decode (mB 37) 31 = .ok (.aload_n 0, 1) := by decide +kernel
theorem D37_32 : GF 37 32 4 6 2 := ⟨19, true, by decide +kernel, by decide +kernel⟩
theorem D37_35 : decode (mB 37) 35 = .ok (.aload_n 0, 1) := by decide +kernel
theorem D37_36 : GF 37 36 4 1 0 := ⟨133, false, by decide +kernel, by decide +kernel⟩
theorem D37_39 : decode (mB 37) 39 = .ok (.lload_n 1, 1) := by decide +kernel
theorem D37_40 : decode (mB 37) 40 = .ok (.lastore, 1) := by decide +kernel
theorem D37_41 : decode (mB 37) 41 = .ok (.aload_n 0, 1) := by decide +kernel
theorem D37_42 : GF 37 42 4 7 2 := ⟨22, true, by decide +kernel, by decide +kernel⟩
theorem D37_45 : decode (mB 37) 45 = .ok (.aload_n 0, 1) := by decide +kernel
theorem D37_46 : GF 37 46 4 1 0 := ⟨133, false, by decide +kernel, by decide +kernel⟩
theorem D37_49 : decode (mB 37) 49 = .ok (.iload_n 3, 1) := by decide +kernel
theorem D37_50 : decode (mB 37) 50 = .ok (.iastore, 1) := by decide +kernel
theorem D37_51 : decode (mB 37) 51 = .ok (.aload_n 0, 1) := by decide +kernel
theorem D37_52 : decode (mB 37) 52 = .ok (.dup, 1) := by decide +kernel
theorem D37_53 : GF 37 53 4 1 0 := ⟨133, false, by decide +kernel, by decide +kernel⟩
theorem D37_56 : decode (mB 37) 56 = .ok (.iconst 1, 1) := by decide +kernel
theorem D37_57 : decode (mB 37) 57 = .ok (.iadd, 1) := by decide +kernel
theorem D37_58 : PF 37 58 4 1 0 := ⟨133, false, by decide +kernel, by decide +kernel, by decide +kernel, by decide⟩
theorem Pa_addPlace_e (d : Nat) (a0 : Nat) (y1 : Int64) (x3 : Int32) (m : eM) (h_a0 : kd a0 = 4) : Pa_addPlace d a0 y1 x3 m = if (gI m a0 1) < 0 then (yV m) else (bR (gR m a0 6) fun r1 => gl r1 (if ((aln m r1).toInt32) ≤ (gI m a0 1) then (yV m) else (bR (gR m a0 7) fun r2 => gl r2 (if ((aln m r2).toInt32) ≤ (gI m a0 1) then (yV m) else (bR (gR m a0 6) fun r3 => gw m r3 21 (gI m a0 1) (mJ m r3 (gI m a0 1).toNatClampNeg y1 fun m4 => bR (gR m4 a0 7) fun r5 => gw m4 r5 20 (gI m4 a0 1) (mI m4 r5 (gI m4 a0 1).toNatClampNeg x3 fun m6 => mI m6 a0 1 ((gI m6 a0 1) + (1 : Int32)) fun m7 => yV m7))))))) := by
  unfold Pa_addPlace
  refine (x_aload1 D37_0 rfl).trans ?_
  refine ((x_getI D37_1).trans (gd_t h_a0)).trans ?_
  refine (x_iflt D37_4).trans (i_c ?_ ?_)
  · exact x_vret D37_61 M37.2.2.1
  · refine (x_aload1 D37_7 rfl).trans ?_
    refine ((x_getI D37_8).trans (gd_t h_a0)).trans ?_
    refine (x_aload1 D37_11 rfl).trans ?_
    refine ((x_getR D37_12).trans (gd_t h_a0)).trans (bR_c fun r1 => ?_)
    refine (x_alen D37_15).trans (gl_c ?_)
    refine (x_cge D37_16).trans (i_c ?_ ?_)
    · exact x_vret D37_61 M37.2.2.1
    · refine (x_aload1 D37_19 rfl).trans ?_
      refine ((x_getI D37_20).trans (gd_t h_a0)).trans ?_
      refine (x_aload1 D37_23 rfl).trans ?_
      refine ((x_getR D37_24).trans (gd_t h_a0)).trans (bR_c fun r2 => ?_)
      refine (x_alen D37_27).trans (gl_c ?_)
      refine (x_cge D37_28).trans (i_c ?_ ?_)
      · exact x_vret D37_61 M37.2.2.1
      · refine (x_aload1 D37_31 rfl).trans ?_
        refine ((x_getR D37_32).trans (gd_t h_a0)).trans (bR_c fun r3 => ?_)
        refine (x_aload1 D37_35 rfl).trans ?_
        refine ((x_getI D37_36).trans (gd_t h_a0)).trans ?_
        refine (x_lload1 D37_39 rfl).trans ?_
        refine (x_lastore D37_40).trans (gw_c ?_)
        refine mJ_i (fun m4 => X d 37 41 [.ref a0, .long y1, eU, .int x3] [] m4) _ ?_
        intro m4
        refine (x_aload1 D37_41 rfl).trans ?_
        refine ((x_getR D37_42).trans (gd_t h_a0)).trans (bR_c fun r5 => ?_)
        refine (x_aload1 D37_45 rfl).trans ?_
        refine ((x_getI D37_46).trans (gd_t h_a0)).trans ?_
        refine (x_iload1 D37_49 rfl).trans ?_
        refine (x_iastore D37_50).trans (gw_c ?_)
        refine mI_i (fun m6 => X d 37 51 [.ref a0, .long y1, eU, .int x3] [] m6) _ ?_
        intro m6
        refine (x_aload1 D37_51 rfl).trans ?_
        refine (x_dup1 D37_52 rfl).trans ?_
        refine ((x_getI D37_53).trans (gd_t h_a0)).trans ?_
        refine (x_iconst D37_56 (k := 1) (by decide)).trans ?_
        refine (x_iadd D37_57).trans ?_
        refine (x_putI D37_58 h_a0).trans ?_
        refine mI_i (fun m7 => X d 37 61 [.ref a0, .long y1, eU, .int x3] [] m7) _ ?_
        intro m7
        exact x_vret D37_61 M37.2.2.1
theorem D38_0 : decode (mB 38) 0 = .ok (.aload_n 0, 1) := by decide +kernel
theorem D38_1 : decode (mB 38) 1 = .ok (.aload_n 1, 1) := by decide +kernel
theorem D38_2 : decode (mB 38) 2 = .ok (.aload_n 0, 1) := by decide +kernel
theorem D38_3 : GF 38 3 4 2 0 := ⟨141, false, by decide +kernel, by decide +kernel⟩
theorem D38_6 : decode (mB 38) 6 = .ok (.bipush 6, 2) := by decide +kernel
theorem D38_8 : CS 38 8 24 0 := ⟨.invokevirtual 113, by decide +kernel, by decide +kernel, by decide +kernel, by decide⟩
theorem D38_11 : BR 38 11 (.ifCond .ne 5) (5) 16 := ⟨by decide +kernel, by decide, by decide⟩
theorem D38_16 : decode (mB 38) 16 = .ok (.aload_n 1, 1) := by decide +kernel
theorem D38_17 : CS 38 17 27 0 := ⟨.invokevirtual 102, by decide +kernel, by decide +kernel, by decide +kernel, by decide⟩
theorem D38_20 : decode (mB 38) 20 = .ok (.lstore_n 2, 1) := by decide +kernel
theorem D38_21 : decode (mB 38) 21 = .ok (.aload_n 1, 1) := by decide +kernel
theorem D38_22 : CS 38 22 15 0 := ⟨.invokevirtual 95, by decide +kernel, by decide +kernel, by decide +kernel, by decide⟩
theorem D38_25 : decode (mB 38) 25 = .ok (.aload_n 1, 1) := by decide +kernel
theorem R38_26 : lRes (mC 38) 144 = some (24948) := by decide +kernel
theorem D38_26 : decode (mB 38) 26 = .ok (.ldc2_w 144, 3) := by decide +kernel
theorem D38_29 : CS 38 29 36 0 := ⟨.invokevirtual 85, by decide +kernel, by decide +kernel, by decide +kernel, by decide⟩
theorem D38_32 : BR 38 32 (.ifCond .ne 5) (5) 37 := ⟨by decide +kernel, by decide, by decide⟩
theorem D38_37 : decode (mB 38) 37 = .ok (.aload_n 1, 1) := by decide +kernel
theorem D38_38 : decode (mB 38) 38 = .ok (.aload_n 0, 1) := by decide +kernel
theorem D38_39 : GF 38 39 4 6 2 := ⟨19, true, by decide +kernel, by decide +kernel⟩
theorem D38_42 : decode (mB 38) 42 = .ok (.aload_n 0, 1) := by decide +kernel
theorem D38_43 : GF 38 43 4 1 0 := ⟨133, false, by decide +kernel, by decide +kernel⟩
theorem D38_46 : CS 38 46 39 2 := ⟨.invokestatic 146, by decide +kernel, by decide +kernel, by decide +kernel, by decide⟩
theorem D38_49 : decode (mB 38) 49 = .ok (.istore 4, 2) := by decide +kernel
theorem D38_51 : decode (mB 38) 51 = .ok (.iload 4, 2) := by decide +kernel
theorem D38_53 : decode (mB 38) 53 = .ok (.iconst (-1), 1) := by decide +kernel
theorem D38_54 : BR 38 54 (.if_icmp .eq 13) (13) 67 := ⟨by decide +kernel, by decide, by decide⟩
theorem D38_67 : decode (mB 38) 67 = .ok (.iconst 0, 1) := by decide +kernel
theorem D38_68 : decode (mB 38) 68 = .ok (.ireturn, 1) := by decide +kernel
theorem D38_57 : decode (mB 38) 57 = .ok (.aload_n 1, 1) := by decide +kernel
theorem R38_58 : lRes (mC 38) 150 = some (461414299507) := by decide +kernel
theorem D38_58 : decode (mB 38) 58 = .ok (.ldc2_w 150, 3) := by decide +kernel
theorem D38_61 : CS 38 61 36 0 := ⟨.invokevirtual 85, by decide +kernel, by decide +kernel, by decide +kernel, by decide⟩
theorem D38_64 : BR 38 64 (.ifCond .ne 5) (5) 69 := ⟨by decide +kernel, by decide, by decide⟩
theorem D38_69 : decode (mB 38) 69 = .ok (.iconst 0, 1) := by decide +kernel
theorem D38_70 : decode (mB 38) 70 = .ok (.istore 5, 2) := by decide +kernel
theorem D38_72 : decode (mB 38) 72 = .ok (.iconst 0, 1) := by decide +kernel
theorem D38_73 : decode (mB 38) 73 = .ok (.istore 6, 2) := by decide +kernel
theorem D38_35 : decode (mB 38) 35 = .ok (.iconst 0, 1) := by decide +kernel
theorem D38_36 : decode (mB 38) 36 = .ok (.ireturn, 1) := by decide +kernel
theorem D38_14 : decode (mB 38) 14 = .ok (.iconst 0, 1) := by decide +kernel
theorem D38_15 : decode (mB 38) 15 = .ok (.ireturn, 1) := by decide +kernel
theorem D38_75 : decode (mB 38) 75 = .ok (.iload 6, 2) := by decide +kernel
theorem D38_77 : decode (mB 38) 77 = .ok (.bipush 6, 2) := by decide +kernel
theorem D38_79 : BR 38 79 (.if_icmp .gt 44) (44) 123 := ⟨by decide +kernel, by decide, by decide⟩
theorem D38_123 : decode (mB 38) 123 = .ok (.aload_n 1, 1) := by decide +kernel
theorem D38_124 : decode (mB 38) 124 = .ok (.bipush 59, 2) := by decide +kernel
theorem D38_126 : CS 38 126 32 0 := ⟨.invokevirtual 125, by decide +kernel, by decide +kernel, by decide +kernel, by decide⟩
theorem D38_129 : BR 38 129 (.ifCond .ne 5) (5) 134 := ⟨by decide +kernel, by decide, by decide⟩
theorem D38_134 : decode (mB 38) 134 = .ok (.aload_n 0, 1) := by decide +kernel
theorem D38_135 : decode (mB 38) 135 = .ok (.lload_n 2, 1) := by decide +kernel
theorem D38_136 : decode (mB 38) 136 = .ok (.iload 4, 2) := by decide +kernel
theorem D38_138 : decode (mB 38) 138 = .ok (.iload 5, 2) := by decide +kernel
theorem D38_140 : CS 38 140 42 0 := ⟨.invokevirtual 159, by decide +kernel, by decide +kernel, by decide +kernel, by decide⟩
theorem D38_143 : decode (mB 38) 143 = .ok (.iconst 1, 1) := by decide +kernel
theorem D38_144 : decode (mB 38) 144 = .ok (.ireturn, 1) := by decide +kernel
theorem D38_132 : decode (mB 38) 132 = .ok (.iconst 0, 1) := by decide +kernel
theorem D38_133 : decode (mB 38) 133 = .ok (.ireturn, 1) := by decide +kernel
theorem D38_82 : decode (mB 38) 82 = .ok (.aload_n 1, 1) := by decide +kernel
theorem D38_83 : decode (mB 38) 83 = .ok (.bipush 59, 2) := by decide +kernel
theorem D38_85 : CS 38 85 33 0 := ⟨.invokevirtual 152, by decide +kernel, by decide +kernel, by decide +kernel, by decide⟩
theorem D38_88 : BR 38 88 (.ifCond .ne 35) (35) 123 := ⟨by decide +kernel, by decide, by decide⟩
theorem D38_91 : decode (mB 38) 91 = .ok (.aload_n 0, 1) := by decide +kernel
theorem D38_92 : decode (mB 38) 92 = .ok (.aload_n 1, 1) := by decide +kernel
theorem D38_93 : decode (mB 38) 93 = .ok (.iload 5, 2) := by decide +kernel
theorem D38_95 : CS 38 95 40 0 := ⟨.invokevirtual 155, by decide +kernel, by decide +kernel, by decide +kernel, by decide⟩
theorem D38_98 : decode (mB 38) 98 = .ok (.istore 7, 2) := by decide +kernel
theorem D38_100 : decode (mB 38) 100 = .ok (.iload 7, 2) := by decide +kernel
theorem D38_102 : decode (mB 38) 102 = .ok (.iconst (-1), 1) := by decide +kernel
theorem D38_103 : BR 38 103 (.if_icmp .ne 5) (5) 108 := ⟨by decide +kernel, by decide, by decide⟩
theorem D38_108 : decode (mB 38) 108 = .ok (.iload 5, 2) := by decide +kernel
theorem D38_110 : decode (mB 38) 110 = .ok (.iconst 1, 1) := by decide +kernel
theorem D38_111 : decode (mB 38) 111 = .ok (.iload 7, 2) := by decide +kernel
theorem D38_113 : decode (mB 38) 113 = .ok (.ishl, 1) := by decide +kernel
theorem D38_114 : decode (mB 38) 114 = .ok (.ior, 1) := by decide +kernel
theorem D38_115 : decode (mB 38) 115 = .ok (.istore 5, 2) := by decide +kernel
theorem D38_117 : decode (mB 38) 117 = .ok (.iinc 6 1, 3) := by decide +kernel
theorem D38_120 : BR 38 120 (.goto (-45)) (-45) 75 := ⟨by decide +kernel, by decide, by decide⟩
theorem D38_106 : decode (mB 38) 106 = .ok (.iconst 0, 1) := by decide +kernel
theorem D38_107 : decode (mB 38) 107 = .ok (.ireturn, 1) := by decide +kernel
theorem Pa_readPerson_e (d : Nat) (a0 : Nat) (a1 : Nat) (m : eM) (h_a0 : kd a0 = 4) (h_a1 : kd a1 = 8) : Pa_readPerson (d + 1) a0 a1 m = bI (Pa_startLine d a0 a1 (gI m a0 2) (6 : Int32) m) fun v2 m1 => if ¬ v2 = 0 then (bL (Ta_word d a1 m1) fun v4 m3 => bV (Ta_step d a1 m3) fun m5 => bI (Ta_takeWord d a1 (24948 : Int64) m5) fun v7 m6 => if ¬ v7 = 0 then (bR (gR m6 a0 6) fun r8 => bI (Pa_readTold d a1 r8 (gI m6 a0 1) m6) fun v10 m9 => if v10 = (-1 : Int32) then (yI (0 : Int32) m9) else (bI (Ta_takeWord d a1 (461414299507 : Int64) m9) fun v12 m11 => if ¬ v12 = 0 then (Pa_readPerson_75 (d + 1) a0 a1 v4 v10 (0 : Int32) (0 : Int32) eU m11) else (yI (0 : Int32) m11))) else (yI (0 : Int32) m6)) else (yI (0 : Int32) m1) := by
  unfold Pa_readPerson
  refine (x_aload1 D38_0 rfl).trans ?_
  refine (x_aload1 D38_1 rfl).trans ?_
  refine (x_aload1 D38_2 rfl).trans ?_
  refine ((x_getI D38_3).trans (gd_t h_a0)).trans ?_
  refine (x_bipush D38_6 (k := 6) (by decide)).trans ?_
  refine (x_cI D38_8 M24 (fun z => by cases z) (I24 _ _ _ _) rfl rfl (ok_i M24 (I24 _ _ _ _) rfl rfl h_a0)).trans (bI_c fun v2 m1 => ?_)
  refine (x_ifne D38_11).trans (i_c ?_ ?_)
  · refine (x_aload1 D38_16 rfl).trans ?_
    refine (x_cL D38_17 M27  (I27 _) rfl rfl (ok_i M27 (I27 _) rfl rfl h_a1)).trans (bL_c fun v4 m3 => ?_)
    refine (x_lstore1 D38_20 (ls' := [.ref a0, .ref a1, .long v4, eU, eU, eU, eU, eU]) rfl rfl).trans ?_
    refine (x_aload1 D38_21 rfl).trans ?_
    refine (x_cV D38_22 M15  (I15 _) rfl rfl (ok_i M15 (I15 _) rfl rfl h_a1)).trans (bV_c fun m5 => ?_)
    refine (x_aload1 D38_25 rfl).trans ?_
    refine (x_ldc2 D38_26 R38_26).trans ?_
    refine (x_cI D38_29 M36 (fun z => by cases z) (I36 _ _) rfl rfl (ok_i M36 (I36 _ _) rfl rfl h_a1)).trans (bI_c fun v7 m6 => ?_)
    refine (x_ifne D38_32).trans (i_c ?_ ?_)
    · refine (x_aload1 D38_37 rfl).trans ?_
      refine (x_aload1 D38_38 rfl).trans ?_
      refine ((x_getR D38_39).trans (gd_t h_a0)).trans (bR_c fun r8 => ?_)
      refine (x_aload1 D38_42 rfl).trans ?_
      refine ((x_getI D38_43).trans (gd_t h_a0)).trans ?_
      refine (x_cI D38_46 M39 (fun z => by cases z) (I39 _ _ _) rfl rfl (ok_s M39 (I39 _ _ _) rfl rfl)).trans (bI_c fun v10 m9 => ?_)
      refine (x_istore2 D38_49 (ls' := [.ref a0, .ref a1, .long v4, eU, .int v10, eU, eU, eU]) rfl rfl).trans ?_
      refine (x_iload2 D38_51 rfl).trans ?_
      refine (x_iconst D38_53 (k := -1) (by decide)).trans ?_
      refine (x_ceq D38_54).trans (i_c ?_ ?_)
      · refine (x_iconst D38_67 (k := 0) (by decide)).trans ?_
        exact (x_bret D38_68 M38.2.2.1).trans yB0
      · refine (x_aload1 D38_57 rfl).trans ?_
        refine (x_ldc2 D38_58 R38_58).trans ?_
        refine (x_cI D38_61 M36 (fun z => by cases z) (I36 _ _) rfl rfl (ok_i M36 (I36 _ _) rfl rfl h_a1)).trans (bI_c fun v12 m11 => ?_)
        refine (x_ifne D38_64).trans (i_c ?_ ?_)
        · refine (x_iconst D38_69 (k := 0) (by decide)).trans ?_
          refine (x_istore2 D38_70 (ls' := [.ref a0, .ref a1, .long v4, eU, .int v10, .int (0 : Int32), eU, eU]) rfl rfl).trans ?_
          refine (x_iconst D38_72 (k := 0) (by decide)).trans ?_
          refine (x_istore2 D38_73 (ls' := [.ref a0, .ref a1, .long v4, eU, .int v10, .int (0 : Int32), .int (0 : Int32), eU]) rfl rfl).trans ?_
          rfl
        · refine (x_iconst D38_67 (k := 0) (by decide)).trans ?_
          exact (x_bret D38_68 M38.2.2.1).trans yB0
    · refine (x_iconst D38_35 (k := 0) (by decide)).trans ?_
      exact (x_bret D38_36 M38.2.2.1).trans yB0
  · refine (x_iconst D38_14 (k := 0) (by decide)).trans ?_
    exact (x_bret D38_15 M38.2.2.1).trans yB0
theorem Pa_readPerson_75_e (d : Nat) (a0 : Nat) (a1 : Nat) (y2 : Int64) (x4 : Int32) (x5 : Int32) (x6 : Int32) (w7 : Value) (m : eM) (h_a0 : kd a0 = 4) (h_a1 : kd a1 = 8) : Pa_readPerson_75 (d + 1) a0 a1 y2 x4 x5 x6 w7 m = if (6 : Int32) < x6 then (bI (Ta_takeSign d a1 (59 : Int32) m) fun v2 m1 => if ¬ v2 = 0 then (bV (Pa_addPerson d a0 y2 x4 x5 m1) fun m3 => yI (1 : Int32) m3) else (yI (0 : Int32) m1)) else (bI (Ta_isSign d a1 (59 : Int32) m) fun v5 m4 => if ¬ v5 = 0 then (bI (Ta_takeSign d a1 (59 : Int32) m4) fun v7 m6 => if ¬ v7 = 0 then (bV (Pa_addPerson d a0 y2 x4 x5 m6) fun m8 => yI (1 : Int32) m8) else (yI (0 : Int32) m6)) else (bI (Pa_readKnown d a0 a1 x5 m4) fun v10 m9 => if ¬ v10 = (-1 : Int32) then (Pa_readPerson_75 (d + 1) a0 a1 y2 x4 (x5 ||| ((1 : Int32) <<< (v10 &&& 31))) (x6 + (1 : Int32)) (.int v10) m9) else (yI (0 : Int32) m9))) := by
  unfold Pa_readPerson_75
  refine (x_iload2 D38_75 rfl).trans ?_
  refine (x_bipush D38_77 (k := 6) (by decide)).trans ?_
  refine (x_cgt D38_79).trans (i_c ?_ ?_)
  · refine (x_aload1 D38_123 rfl).trans ?_
    refine (x_bipush D38_124 (k := 59) (by decide)).trans ?_
    refine (x_cI D38_126 M32 (fun z => by cases z) (I32 _ _) rfl rfl (ok_i M32 (I32 _ _) rfl rfl h_a1)).trans (bI_c fun v2 m1 => ?_)
    refine (x_ifne D38_129).trans (i_c ?_ ?_)
    · refine (x_aload1 D38_134 rfl).trans ?_
      refine (x_lload1 D38_135 rfl).trans ?_
      refine (x_iload2 D38_136 rfl).trans ?_
      refine (x_iload2 D38_138 rfl).trans ?_
      refine (x_cV D38_140 M42  (I42 _ _ _ _) rfl rfl (ok_i M42 (I42 _ _ _ _) rfl rfl h_a0)).trans (bV_c fun m3 => ?_)
      refine (x_iconst D38_143 (k := 1) (by decide)).trans ?_
      exact (x_bret D38_144 M38.2.2.1).trans yB1
    · refine (x_iconst D38_132 (k := 0) (by decide)).trans ?_
      exact (x_bret D38_133 M38.2.2.1).trans yB0
  · refine (x_aload1 D38_82 rfl).trans ?_
    refine (x_bipush D38_83 (k := 59) (by decide)).trans ?_
    refine (x_cI D38_85 M33 (fun z => by cases z) (I33 _ _) rfl rfl (ok_i M33 (I33 _ _) rfl rfl h_a1)).trans (bI_c fun v5 m4 => ?_)
    refine (x_ifne D38_88).trans (i_c ?_ ?_)
    · refine (x_aload1 D38_123 rfl).trans ?_
      refine (x_bipush D38_124 (k := 59) (by decide)).trans ?_
      refine (x_cI D38_126 M32 (fun z => by cases z) (I32 _ _) rfl rfl (ok_i M32 (I32 _ _) rfl rfl h_a1)).trans (bI_c fun v7 m6 => ?_)
      refine (x_ifne D38_129).trans (i_c ?_ ?_)
      · refine (x_aload1 D38_134 rfl).trans ?_
        refine (x_lload1 D38_135 rfl).trans ?_
        refine (x_iload2 D38_136 rfl).trans ?_
        refine (x_iload2 D38_138 rfl).trans ?_
        refine (x_cV D38_140 M42  (I42 _ _ _ _) rfl rfl (ok_i M42 (I42 _ _ _ _) rfl rfl h_a0)).trans (bV_c fun m8 => ?_)
        refine (x_iconst D38_143 (k := 1) (by decide)).trans ?_
        exact (x_bret D38_144 M38.2.2.1).trans yB1
      · refine (x_iconst D38_132 (k := 0) (by decide)).trans ?_
        exact (x_bret D38_133 M38.2.2.1).trans yB0
    · refine (x_aload1 D38_91 rfl).trans ?_
      refine (x_aload1 D38_92 rfl).trans ?_
      refine (x_iload2 D38_93 rfl).trans ?_
      refine (x_cI D38_95 M40 (fun z => by cases z) (I40 _ _ _) rfl rfl (ok_i M40 (I40 _ _ _) rfl rfl h_a0)).trans (bI_c fun v10 m9 => ?_)
      refine (x_istore2 D38_98 (ls' := [.ref a0, .ref a1, .long y2, eU, .int x4, .int x5, .int x6, .int v10]) rfl rfl).trans ?_
      refine (x_iload2 D38_100 rfl).trans ?_
      refine (x_iconst D38_102 (k := -1) (by decide)).trans ?_
      refine (x_cne D38_103).trans (i_c ?_ ?_)
      · refine (x_iload2 D38_108 rfl).trans ?_
        refine (x_iconst D38_110 (k := 1) (by decide)).trans ?_
        refine (x_iload2 D38_111 rfl).trans ?_
        refine (x_ishl D38_113).trans ?_
        refine (x_ior D38_114).trans ?_
        refine (x_istore2 D38_115 (ls' := [.ref a0, .ref a1, .long y2, eU, .int x4, .int (x5 ||| ((1 : Int32) <<< (v10 &&& 31))), .int x6, .int v10]) rfl rfl).trans ?_
        refine (x_iinc D38_117 rfl (k := 1) (by decide) (ls' := [.ref a0, .ref a1, .long y2, eU, .int x4, .int (x5 ||| ((1 : Int32) <<< (v10 &&& 31))), .int (x6 + (1 : Int32)), .int v10]) rfl).trans ?_
        refine (x_goto D38_120).trans ?_
        rfl
      · refine (x_iconst D38_106 (k := 0) (by decide)).trans ?_
        exact (x_bret D38_107 M38.2.2.1).trans yB0
theorem D39_0 : decode (mB 39) 0 = .ok (.aload_n 0, 1) := by decide +kernel
theorem D39_1 : CS 39 1 26 0 := ⟨.invokevirtual 98, by decide +kernel, by decide +kernel, by decide +kernel, by decide⟩
theorem D39_4 : BR 39 4 (.ifCond .ne 11) (11) 15 := ⟨by decide +kernel, by decide, by decide⟩
theorem D39_15 : decode (mB 39) 15 = .ok (.aload_n 1, 1) := by decide +kernel
theorem D39_16 : decode (mB 39) 16 = .ok (.iload_n 2, 1) := by decide +kernel
theorem D39_17 : decode (mB 39) 17 = .ok (.aload_n 0, 1) := by decide +kernel
theorem D39_18 : CS 39 18 27 0 := ⟨.invokevirtual 102, by decide +kernel, by decide +kernel, by decide +kernel, by decide⟩
theorem D39_21 : CS 39 21 29 2 := ⟨.invokestatic 163, by decide +kernel, by decide +kernel, by decide +kernel, by decide⟩
theorem D39_24 : decode (mB 39) 24 = .ok (.istore_n 3, 1) := by decide +kernel
theorem D39_25 : decode (mB 39) 25 = .ok (.iload_n 3, 1) := by decide +kernel
theorem D39_26 : decode (mB 39) 26 = .ok (.iconst (-1), 1) := by decide +kernel
theorem D39_27 : BR 39 27 (.if_icmp .ne 11) (11) 38 := ⟨by decide +kernel, by decide, by decide⟩
theorem D39_38 : decode (mB 39) 38 = .ok (.aload_n 0, 1) := by decide +kernel
theorem D39_39 : CS 39 39 15 0 := ⟨.invokevirtual 95, by decide +kernel, by decide +kernel, by decide +kernel, by decide⟩
theorem D39_42 : decode (mB 39) 42 = .ok (.iload_n 3, 1) := by decide +kernel
theorem D39_43 : decode (mB 39) 43 = .ok (.ireturn, 1) := by decide +kernel
theorem D39_30 : decode (mB 39) 30 = .ok (.aload_n 0, 1) := by decide +kernel
theorem D39_31 : decode (mB 39) 31 = .ok (.iconst 2, 1) := by decide +kernel
theorem D39_32 : CS 39 32 25 0 := ⟨.invokevirtual 91, by decide +kernel, by decide +kernel, by decide +kernel, by decide⟩
theorem D39_35 : decode (mB 39) 35 = .ok (.pop, 1) := by decide +kernel
theorem D39_36 : decode (mB 39) 36 = .ok (.iconst (-1), 1) := by decide +kernel
theorem D39_37 : decode (mB 39) 37 = .ok (.ireturn, 1) := by decide +kernel
theorem D39_7 : decode (mB 39) 7 = .ok (.aload_n 0, 1) := by decide +kernel
theorem D39_8 : decode (mB 39) 8 = .ok (.iconst 1, 1) := by decide +kernel
theorem D39_9 : CS 39 9 25 0 := ⟨.invokevirtual 91, by decide +kernel, by decide +kernel, by decide +kernel, by decide⟩
theorem D39_12 : decode (mB 39) 12 = .ok (.pop, 1) := by decide +kernel
theorem D39_13 : decode (mB 39) 13 = .ok (.iconst (-1), 1) := by decide +kernel
theorem D39_14 : decode (mB 39) 14 = .ok (.ireturn, 1) := by decide +kernel
theorem Pa_readTold_e (d : Nat) (a0 : Nat) (a1 : Nat) (x2 : Int32) (m : eM) (h_a0 : kd a0 = 8) : Pa_readTold (d + 1) a0 a1 x2 m = bI (Ta_isName d a0 m) fun v2 m1 => if ¬ v2 = 0 then (bL (Ta_word d a0 m1) fun v4 m3 => bI (Pa_find d a1 x2 v4 m3) fun v6 m5 => if ¬ v6 = (-1 : Int32) then (bV (Ta_step d a0 m5) fun m7 => yI v6 m7) else (bI (Ta_wrong d a0 (2 : Int32) m5) fun v9 m8 => yI (-1 : Int32) m8)) else (bI (Ta_wrong d a0 (1 : Int32) m1) fun v11 m10 => yI (-1 : Int32) m10) := by
  unfold Pa_readTold
  refine (x_aload1 D39_0 rfl).trans ?_
  refine (x_cI D39_1 M26 (fun z => by cases z) (I26 _) rfl rfl (ok_i M26 (I26 _) rfl rfl h_a0)).trans (bI_c fun v2 m1 => ?_)
  refine (x_ifne D39_4).trans (i_c ?_ ?_)
  · refine (x_aload1 D39_15 rfl).trans ?_
    refine (x_iload1 D39_16 rfl).trans ?_
    refine (x_aload1 D39_17 rfl).trans ?_
    refine (x_cL D39_18 M27  (I27 _) rfl rfl (ok_i M27 (I27 _) rfl rfl h_a0)).trans (bL_c fun v4 m3 => ?_)
    refine (x_cI D39_21 M29 (fun z => by cases z) (I29 _ _ _) rfl rfl (ok_s M29 (I29 _ _ _) rfl rfl)).trans (bI_c fun v6 m5 => ?_)
    refine (x_istore1 D39_24 (ls' := [.ref a0, .ref a1, .int x2, .int v6]) rfl rfl).trans ?_
    refine (x_iload1 D39_25 rfl).trans ?_
    refine (x_iconst D39_26 (k := -1) (by decide)).trans ?_
    refine (x_cne D39_27).trans (i_c ?_ ?_)
    · refine (x_aload1 D39_38 rfl).trans ?_
      refine (x_cV D39_39 M15  (I15 _) rfl rfl (ok_i M15 (I15 _) rfl rfl h_a0)).trans (bV_c fun m7 => ?_)
      refine (x_iload1 D39_42 rfl).trans ?_
      exact x_iret D39_43 M39.2.2.1
    · refine (x_aload1 D39_30 rfl).trans ?_
      refine (x_iconst D39_31 (k := 2) (by decide)).trans ?_
      refine (x_cI D39_32 M25 (fun z => by cases z) (I25 _ _) rfl rfl (ok_i M25 (I25 _ _) rfl rfl h_a0)).trans (bI_c fun v9 m8 => ?_)
      refine (x_pop D39_35 rfl).trans ?_
      refine (x_iconst D39_36 (k := -1) (by decide)).trans ?_
      exact x_iret D39_37 M39.2.2.1
  · refine (x_aload1 D39_7 rfl).trans ?_
    refine (x_iconst D39_8 (k := 1) (by decide)).trans ?_
    refine (x_cI D39_9 M25 (fun z => by cases z) (I25 _ _) rfl rfl (ok_i M25 (I25 _ _) rfl rfl h_a0)).trans (bI_c fun v11 m10 => ?_)
    refine (x_pop D39_12 rfl).trans ?_
    refine (x_iconst D39_13 (k := -1) (by decide)).trans ?_
    exact x_iret D39_14 M39.2.2.1
theorem D40_0 : decode (mB 40) 0 = .ok (.aload_n 1, 1) := by decide +kernel
theorem D40_1 : CS 40 1 26 0 := ⟨.invokevirtual 98, by decide +kernel, by decide +kernel, by decide +kernel, by decide⟩
theorem D40_4 : BR 40 4 (.ifCond .eq 14) (14) 18 := ⟨by decide +kernel, by decide, by decide⟩
theorem D40_18 : decode (mB 40) 18 = .ok (.iconst (-1), 1) := by decide +kernel
theorem D40_7 : decode (mB 40) 7 = .ok (.aload_n 0, 1) := by decide +kernel
theorem D40_8 : decode (mB 40) 8 = .ok (.aload_n 1, 1) := by decide +kernel
theorem D40_9 : CS 40 9 27 0 := ⟨.invokevirtual 102, by decide +kernel, by decide +kernel, by decide +kernel, by decide⟩
theorem D40_12 : CS 40 12 41 0 := ⟨.invokevirtual 167, by decide +kernel, by decide +kernel, by decide +kernel, by decide⟩
theorem D40_15 : BR 40 15 (.goto 4) (4) 19 := ⟨by decide +kernel, by decide, by decide⟩
theorem D40_19 : decode (mB 40) 19 = .ok (.istore_n 3, 1) := by decide +kernel
theorem D40_20 : decode (mB 40) 20 = .ok (.iload_n 3, 1) := by decide +kernel
theorem D40_21 : decode (mB 40) 21 = .ok (.iconst (-1), 1) := by decide +kernel
theorem D40_22 : BR 40 22 (.if_icmp .eq 20) (20) 42 := ⟨by decide +kernel, by decide, by decide⟩
theorem D40_42 : decode (mB 40) 42 = .ok (.aload_n 1, 1) := by decide +kernel
theorem D40_43 : decode (mB 40) 43 = .ok (.aload_n 0, 1) := by decide +kernel
theorem D40_44 : GF 40 44 4 4 2 := ⟨9, true, by decide +kernel, by decide +kernel⟩
theorem D40_47 : decode (mB 40) 47 = .ok (.aload_n 0, 1) := by decide +kernel
theorem D40_48 : GF 40 48 4 0 0 := ⟨109, false, by decide +kernel, by decide +kernel⟩
theorem D40_51 : CS 40 51 39 2 := ⟨.invokestatic 146, by decide +kernel, by decide +kernel, by decide +kernel, by decide⟩
theorem D40_54 : decode (mB 40) 54 = .ok (.ireturn, 1) := by decide +kernel
theorem D40_25 : decode (mB 40) 25 = .ok (.iload_n 2, 1) := by decide +kernel
theorem D40_26 : decode (mB 40) 26 = .ok (.iload_n 3, 1) := by decide +kernel
theorem D40_27 : decode (mB 40) 27 = .ok (.ishr, 1) := by decide +kernel
theorem D40_28 : decode (mB 40) 28 = .ok (.iconst 1, 1) := by decide +kernel
theorem D40_29 : decode (mB 40) 29 = .ok (.iand, 1) := by decide +kernel
theorem D40_30 : decode (mB 40) 30 = .ok (.iconst 1, 1) := by decide +kernel
theorem D40_31 : BR 40 31 (.if_icmp .ne 11) (11) 42 := ⟨by decide +kernel, by decide, by decide⟩
theorem D40_34 : decode (mB 40) 34 = .ok (.aload_n 1, 1) := by decide +kernel
theorem D40_35 : decode (mB 40) 35 = .ok (.iconst 3, 1) := by decide +kernel
theorem D40_36 : CS 40 36 25 0 := ⟨.invokevirtual 91, by decide +kernel, by decide +kernel, by decide +kernel, by decide⟩
theorem D40_39 : decode (mB 40) 39 = .ok (.pop, 1) := by decide +kernel
theorem D40_40 : decode (mB 40) 40 = .ok (.iconst (-1), 1) := by decide +kernel
theorem D40_41 : decode (mB 40) 41 = .ok (.ireturn, 1) := by decide +kernel
theorem Pa_readKnown_e (d : Nat) (a0 : Nat) (a1 : Nat) (x2 : Int32) (m : eM) (h_a0 : kd a0 = 4) (h_a1 : kd a1 = 8) : Pa_readKnown (d + 1) a0 a1 x2 m = bI (Ta_isName d a1 m) fun v2 m1 => if v2 = 0 then (Pa_readKnown_19 (d + 1) a0 a1 x2 (-1 : Int32) m1) else (bL (Ta_word d a1 m1) fun v4 m3 => bI (Pa_factNamed d a0 v4 m3) fun v6 m5 => Pa_readKnown_19 (d + 1) a0 a1 x2 v6 m5) := by
  unfold Pa_readKnown
  refine (x_aload1 D40_0 rfl).trans ?_
  refine (x_cI D40_1 M26 (fun z => by cases z) (I26 _) rfl rfl (ok_i M26 (I26 _) rfl rfl h_a1)).trans (bI_c fun v2 m1 => ?_)
  refine (x_ifeq D40_4).trans (i_c ?_ ?_)
  · refine (x_iconst D40_18 (k := -1) (by decide)).trans ?_
    rfl
  · refine (x_aload1 D40_7 rfl).trans ?_
    refine (x_aload1 D40_8 rfl).trans ?_
    refine (x_cL D40_9 M27  (I27 _) rfl rfl (ok_i M27 (I27 _) rfl rfl h_a1)).trans (bL_c fun v4 m3 => ?_)
    refine (x_cI D40_12 M41 (fun z => by cases z) (I41 _ _) rfl rfl (ok_i M41 (I41 _ _) rfl rfl h_a0)).trans (bI_c fun v6 m5 => ?_)
    refine (x_goto D40_15).trans ?_
    rfl
theorem Pa_readKnown_19_e (d : Nat) (a0 : Nat) (a1 : Nat) (x2 : Int32) (p0 : Int32) (m : eM) (h_a0 : kd a0 = 4) (h_a1 : kd a1 = 8) : Pa_readKnown_19 (d + 1) a0 a1 x2 p0 m = if p0 = (-1 : Int32) then (bR (gR m a0 4) fun r1 => bI (Pa_readTold d a1 r1 (gI m a0 0) m) fun v3 m2 => yI v3 m2) else (if ¬ ((x2 >>> (p0 &&& 31)) &&& (1 : Int32)) = (1 : Int32) then (bR (gR m a0 4) fun r4 => bI (Pa_readTold d a1 r4 (gI m a0 0) m) fun v6 m5 => yI v6 m5) else (bI (Ta_wrong d a1 (3 : Int32) m) fun v8 m7 => yI (-1 : Int32) m7)) := by
  unfold Pa_readKnown_19
  refine (x_istore1 D40_19 (ls' := [.ref a0, .ref a1, .int x2, .int p0]) rfl rfl).trans ?_
  refine (x_iload1 D40_20 rfl).trans ?_
  refine (x_iconst D40_21 (k := -1) (by decide)).trans ?_
  refine (x_ceq D40_22).trans (i_c ?_ ?_)
  · refine (x_aload1 D40_42 rfl).trans ?_
    refine (x_aload1 D40_43 rfl).trans ?_
    refine ((x_getR D40_44).trans (gd_t h_a0)).trans (bR_c fun r1 => ?_)
    refine (x_aload1 D40_47 rfl).trans ?_
    refine ((x_getI D40_48).trans (gd_t h_a0)).trans ?_
    refine (x_cI D40_51 M39 (fun z => by cases z) (I39 _ _ _) rfl rfl (ok_s M39 (I39 _ _ _) rfl rfl)).trans (bI_c fun v3 m2 => ?_)
    exact x_iret D40_54 M40.2.2.1
  · refine (x_iload1 D40_25 rfl).trans ?_
    refine (x_iload1 D40_26 rfl).trans ?_
    refine (x_ishr D40_27).trans ?_
    refine (x_iconst D40_28 (k := 1) (by decide)).trans ?_
    refine (x_iand D40_29).trans ?_
    refine (x_iconst D40_30 (k := 1) (by decide)).trans ?_
    refine (x_cne D40_31).trans (i_c ?_ ?_)
    · refine (x_aload1 D40_42 rfl).trans ?_
      refine (x_aload1 D40_43 rfl).trans ?_
      refine ((x_getR D40_44).trans (gd_t h_a0)).trans (bR_c fun r4 => ?_)
      refine (x_aload1 D40_47 rfl).trans ?_
      refine ((x_getI D40_48).trans (gd_t h_a0)).trans ?_
      refine (x_cI D40_51 M39 (fun z => by cases z) (I39 _ _ _) rfl rfl (ok_s M39 (I39 _ _ _) rfl rfl)).trans (bI_c fun v6 m5 => ?_)
      exact x_iret D40_54 M40.2.2.1
    · refine (x_aload1 D40_34 rfl).trans ?_
      refine (x_iconst D40_35 (k := 3) (by decide)).trans ?_
      refine (x_cI D40_36 M25 (fun z => by cases z) (I25 _ _) rfl rfl (ok_i M25 (I25 _ _) rfl rfl h_a1)).trans (bI_c fun v8 m7 => ?_)
      refine (x_pop D40_39 rfl).trans ?_
      refine (x_iconst D40_40 (k := -1) (by decide)).trans ?_
      exact x_iret D40_41 M40.2.2.1
theorem D41_0 : decode (mB 41) 0 = .ok (.aload_n 0, 1) := by decide +kernel
theorem D41_1 : GF 41 1 4 4 2 := ⟨9, true, by decide +kernel, by decide +kernel⟩
theorem D41_4 : decode (mB 41) 4 = .ok (.aload_n 0, 1) := by decide +kernel
theorem D41_5 : GF 41 5 4 0 0 := ⟨109, false, by decide +kernel, by decide +kernel⟩
theorem D41_8 : decode (mB 41) 8 = .ok (.lload_n 1, 1) := by decide +kernel
theorem D41_9 : CS 41 9 29 2 := ⟨.invokestatic 163, by decide +kernel, by decide +kernel, by decide +kernel, by decide⟩
theorem D41_12 : decode (mB 41) 12 = .ok (.ireturn, 1) := by decide +kernel
theorem Pa_factNamed_e (d : Nat) (a0 : Nat) (y1 : Int64) (m : eM) (h_a0 : kd a0 = 4) : Pa_factNamed (d + 1) a0 y1 m = bR (gR m a0 4) fun r1 => bI (Pa_find d r1 (gI m a0 0) y1 m) fun v3 m2 => yI v3 m2 := by
  unfold Pa_factNamed
  refine (x_aload1 D41_0 rfl).trans ?_
  refine ((x_getR D41_1).trans (gd_t h_a0)).trans (bR_c fun r1 => ?_)
  refine (x_aload1 D41_4 rfl).trans ?_
  refine ((x_getI D41_5).trans (gd_t h_a0)).trans ?_
  refine (x_lload1 D41_8 rfl).trans ?_
  refine (x_cI D41_9 M29 (fun z => by cases z) (I29 _ _ _) rfl rfl (ok_s M29 (I29 _ _ _) rfl rfl)).trans (bI_c fun v3 m2 => ?_)
  exact x_iret D41_12 M41.2.2.1
theorem D42_0 : decode (mB 42) 0 = .ok (.aload_n 0, 1) := by decide +kernel
theorem D42_1 : GF 42 1 4 2 0 := ⟨141, false, by decide +kernel, by decide +kernel⟩
theorem D42_4 : BR 42 4 (.ifCond .lt 120) (120) 124 := ⟨by decide +kernel, by decide, by decide⟩
theorem D42_124 : decode (mB 42) 124 = .ok (.return_, 1) := by decide +kernel
theorem D42_7 : decode (mB 42) 7 = .ok (.aload_n 0, 1) := by decide +kernel
theorem D42_8 : GF 42 8 4 2 0 := ⟨141, false, by decide +kernel, by decide +kernel⟩
theorem D42_11 : decode (mB 42) 11 = .ok (.aload_n 0, 1) := by decide +kernel
theorem D42_12 : GF 42 12 4 8 2 := ⟨25, true, by decide +kernel, by decide +kernel⟩
theorem D42_15 : decode (mB 42) 15 = .ok (.arraylength, 1) := by decide +kernel
theorem D42_16 : BR 42 16 (.if_icmp .ge 108) (108) 124 := ⟨by decide +kernel, by decide, by decide⟩
theorem D42_19 : decode (mB 42) 19 = .ok (.aload_n 0, 1) := by decide +kernel
theorem D42_20 : GF 42 20 4 2 0 := ⟨141, false, by decide +kernel, by decide +kernel⟩
theorem D42_23 : decode (mB 42) 23 = .ok (.aload_n 0, 1) := by decide +kernel
theorem D42_24 : GF 42 24 4 9 2 := ⟨28, true, by decide +kernel, by decide +kernel⟩
theorem D42_27 : decode (mB 42) 27 = .ok (.arraylength, 1) := by decide +kernel
theorem D42_28 : BR 42 28 (.if_icmp .ge 96) (96) 124 := ⟨by decide +kernel, by decide, by decide⟩
theorem D42_31 : decode (mB 42) 31 = .ok (.aload_n 0, 1) := by decide +kernel
theorem D42_32 : GF 42 32 4 2 0 := ⟨141, false, by decide +kernel, by decide +kernel⟩
theorem D42_35 : decode (mB 42) 35 = .ok (.aload_n 0, 1) := by decide +kernel
theorem D42_36 : GF 42 36 4 10 2 := ⟨31, true, by decide +kernel, by decide +kernel⟩
theorem D42_39 : decode (mB 42) 39 = .ok (.arraylength, 1) := by decide +kernel
theorem D42_40 : BR 42 40 (.if_icmp .ge 84) (84) 124 := ⟨by decide +kernel, by decide, by decide⟩
theorem D42_43 : decode (mB 42) 43 = .ok (.aload_n 0, 1) := by decide +kernel
theorem D42_44 : GF 42 44 4 2 0 := ⟨141, false, by decide +kernel, by decide +kernel⟩
theorem D42_47 : decode (mB 42) 47 = .ok (.aload_n 0, 1) := by decide +kernel
theorem D42_48 : GF 42 48 4 11 2 := ⟨34, true, by decide +kernel, by decide +kernel⟩
theorem D42_51 : decode (mB 42) 51 = .ok (.arraylength, 1) := by decide +kernel
theorem D42_52 : BR 42 52 (.if_icmp .ge 72) (72) 124 := ⟨by decide +kernel, by decide, by decide⟩
theorem D42_55 : decode (mB 42) 55 = .ok (.iload_n 3, 1) := by decide +kernel
theorem D42_56 : BR 42 56 (.ifCond .lt 68) (68) 124 := ⟨by decide +kernel, by decide, by decide⟩
theorem D42_59 : decode (mB 42) 59 = .ok (.iload_n 3, 1) := by decide +kernel
theorem D42_60 : decode (mB 42) 60 = .ok (.aload_n 0, 1) := by decide +kernel
theorem D42_61 : GF 42 61 4 7 2 := ⟨22, true, by decide +kernel, by decide +kernel⟩
theorem D42_64 : decode (mB 42) 64 = .ok (.arraylength, 1) := by decide +kernel
theorem D42_65 : BR 42 65 (.if_icmp .ge 59) (59) 124 := ⟨by decide +kernel, by decide, by decide⟩
theorem D42_68 : decode (mB 42) 68 = .ok (.aload_n 0, 1) := by decide +kernel
theorem D42_69 : GF 42 69 4 8 2 := ⟨25, true, by decide +kernel, by decide +kernel⟩
theorem D42_72 : decode (mB 42) 72 = .ok (.aload_n 0, 1) := by decide +kernel
theorem D42_73 : GF 42 73 4 2 0 := ⟨141, false, by decide +kernel, by decide +kernel⟩
theorem D42_76 : decode (mB 42) 76 = .ok (.lload_n 1, 1) := by decide +kernel
theorem D42_77 : decode (mB 42) 77 = .ok (.lastore, 1) := by decide +kernel
theorem D42_78 : decode (mB 42) 78 = .ok (.aload_n 0, 1) := by decide +kernel
theorem D42_79 : GF 42 79 4 9 2 := ⟨28, true, by decide +kernel, by decide +kernel⟩
theorem D42_82 : decode (mB 42) 82 = .ok (.aload_n 0, 1) := by decide +kernel
theorem D42_83 : GF 42 83 4 2 0 := ⟨141, false, by decide +kernel, by decide +kernel⟩
theorem D42_86 : decode (mB 42) 86 = .ok (.iload_n 3, 1) := by decide +kernel
theorem D42_87 : decode (mB 42) 87 = .ok (.iastore, 1) := by decide +kernel
theorem D42_88 : decode (mB 42) 88 = .ok (.aload_n 0, 1) := by decide +kernel
theorem D42_89 : GF 42 89 4 10 2 := ⟨31, true, by decide +kernel, by decide +kernel⟩
theorem D42_92 : decode (mB 42) 92 = .ok (.aload_n 0, 1) := by decide +kernel
theorem D42_93 : GF 42 93 4 2 0 := ⟨141, false, by decide +kernel, by decide +kernel⟩
theorem D42_96 : decode (mB 42) 96 = .ok (.aload_n 0, 1) := by decide +kernel
theorem D42_97 : GF 42 97 4 7 2 := ⟨22, true, by decide +kernel, by decide +kernel⟩
theorem D42_100 : decode (mB 42) 100 = .ok (.iload_n 3, 1) := by decide +kernel
theorem D42_101 : decode (mB 42) 101 = .ok (.iaload, 1) := by decide +kernel
theorem D42_102 : decode (mB 42) 102 = .ok (.iastore, 1) := by decide +kernel
theorem D42_103 : decode (mB 42) 103 = .ok (.aload_n 0, 1) := by decide +kernel
theorem D42_104 : GF 42 104 4 11 2 := ⟨34, true, by decide +kernel, by decide +kernel⟩
theorem D42_107 : decode (mB 42) 107 = .ok (.aload_n 0, 1) := by decide +kernel
theorem D42_108 : GF 42 108 4 2 0 := ⟨141, false, by decide +kernel, by decide +kernel⟩
theorem D42_111 : decode (mB 42) 111 = .ok (.iload 4, 2) := by decide +kernel
theorem D42_113 : decode (mB 42) 113 = .ok (.iastore, 1) := by decide +kernel
theorem D42_114 : decode (mB 42) 114 = .ok (.aload_n 0, 1) := by decide +kernel
theorem D42_115 : decode (mB 42) 115 = .ok (.dup, 1) := by decide +kernel
theorem D42_116 : GF 42 116 4 2 0 := ⟨141, false, by decide +kernel, by decide +kernel⟩
theorem D42_119 : decode (mB 42) 119 = .ok (.iconst 1, 1) := by decide +kernel
theorem D42_120 : decode (mB 42) 120 = .ok (.iadd, 1) := by decide +kernel
theorem D42_121 : PF 42 121 4 2 0 := ⟨141, false, by decide +kernel, by decide +kernel, by decide +kernel, by decide⟩
theorem Pa_addPerson_e (d : Nat) (a0 : Nat) (y1 : Int64) (x3 : Int32) (x4 : Int32) (m : eM) (h_a0 : kd a0 = 4) : Pa_addPerson d a0 y1 x3 x4 m = if (gI m a0 2) < 0 then (yV m) else (bR (gR m a0 8) fun r1 => gl r1 (if ((aln m r1).toInt32) ≤ (gI m a0 2) then (yV m) else (bR (gR m a0 9) fun r2 => gl r2 (if ((aln m r2).toInt32) ≤ (gI m a0 2) then (yV m) else (bR (gR m a0 10) fun r3 => gl r3 (if ((aln m r3).toInt32) ≤ (gI m a0 2) then (yV m) else (bR (gR m a0 11) fun r4 => gl r4 (if ((aln m r4).toInt32) ≤ (gI m a0 2) then (yV m) else (if x3 < 0 then (yV m) else (bR (gR m a0 7) fun r5 => gl r5 (if ((aln m r5).toInt32) ≤ x3 then (yV m) else (bR (gR m a0 8) fun r6 => gw m r6 21 (gI m a0 2) (mJ m r6 (gI m a0 2).toNatClampNeg y1 fun m7 => bR (gR m7 a0 9) fun r8 => gw m7 r8 20 (gI m7 a0 2) (mI m7 r8 (gI m7 a0 2).toNatClampNeg x3 fun m9 => bR (gR m9 a0 10) fun r10 => bR (gR m9 a0 7) fun r11 => ga m9 r11 20 x3 (gw m9 r10 20 (gI m9 a0 2) (mI m9 r10 (gI m9 a0 2).toNatClampNeg (gI m9 r11 x3.toNatClampNeg) fun m12 => bR (gR m12 a0 11) fun r13 => gw m12 r13 20 (gI m12 a0 2) (mI m12 r13 (gI m12 a0 2).toNatClampNeg x4 fun m14 => mI m14 a0 2 ((gI m14 a0 2) + (1 : Int32)) fun m15 => yV m15))))))))))))))))) := by
  unfold Pa_addPerson
  refine (x_aload1 D42_0 rfl).trans ?_
  refine ((x_getI D42_1).trans (gd_t h_a0)).trans ?_
  refine (x_iflt D42_4).trans (i_c ?_ ?_)
  · exact x_vret D42_124 M42.2.2.1
  · refine (x_aload1 D42_7 rfl).trans ?_
    refine ((x_getI D42_8).trans (gd_t h_a0)).trans ?_
    refine (x_aload1 D42_11 rfl).trans ?_
    refine ((x_getR D42_12).trans (gd_t h_a0)).trans (bR_c fun r1 => ?_)
    refine (x_alen D42_15).trans (gl_c ?_)
    refine (x_cge D42_16).trans (i_c ?_ ?_)
    · exact x_vret D42_124 M42.2.2.1
    · refine (x_aload1 D42_19 rfl).trans ?_
      refine ((x_getI D42_20).trans (gd_t h_a0)).trans ?_
      refine (x_aload1 D42_23 rfl).trans ?_
      refine ((x_getR D42_24).trans (gd_t h_a0)).trans (bR_c fun r2 => ?_)
      refine (x_alen D42_27).trans (gl_c ?_)
      refine (x_cge D42_28).trans (i_c ?_ ?_)
      · exact x_vret D42_124 M42.2.2.1
      · refine (x_aload1 D42_31 rfl).trans ?_
        refine ((x_getI D42_32).trans (gd_t h_a0)).trans ?_
        refine (x_aload1 D42_35 rfl).trans ?_
        refine ((x_getR D42_36).trans (gd_t h_a0)).trans (bR_c fun r3 => ?_)
        refine (x_alen D42_39).trans (gl_c ?_)
        refine (x_cge D42_40).trans (i_c ?_ ?_)
        · exact x_vret D42_124 M42.2.2.1
        · refine (x_aload1 D42_43 rfl).trans ?_
          refine ((x_getI D42_44).trans (gd_t h_a0)).trans ?_
          refine (x_aload1 D42_47 rfl).trans ?_
          refine ((x_getR D42_48).trans (gd_t h_a0)).trans (bR_c fun r4 => ?_)
          refine (x_alen D42_51).trans (gl_c ?_)
          refine (x_cge D42_52).trans (i_c ?_ ?_)
          · exact x_vret D42_124 M42.2.2.1
          · refine (x_iload1 D42_55 rfl).trans ?_
            refine (x_iflt D42_56).trans (i_c ?_ ?_)
            · exact x_vret D42_124 M42.2.2.1
            · refine (x_iload1 D42_59 rfl).trans ?_
              refine (x_aload1 D42_60 rfl).trans ?_
              refine ((x_getR D42_61).trans (gd_t h_a0)).trans (bR_c fun r5 => ?_)
              refine (x_alen D42_64).trans (gl_c ?_)
              refine (x_cge D42_65).trans (i_c ?_ ?_)
              · exact x_vret D42_124 M42.2.2.1
              · refine (x_aload1 D42_68 rfl).trans ?_
                refine ((x_getR D42_69).trans (gd_t h_a0)).trans (bR_c fun r6 => ?_)
                refine (x_aload1 D42_72 rfl).trans ?_
                refine ((x_getI D42_73).trans (gd_t h_a0)).trans ?_
                refine (x_lload1 D42_76 rfl).trans ?_
                refine (x_lastore D42_77).trans (gw_c ?_)
                refine mJ_i (fun m7 => X d 42 78 [.ref a0, .long y1, eU, .int x3, .int x4] [] m7) _ ?_
                intro m7
                refine (x_aload1 D42_78 rfl).trans ?_
                refine ((x_getR D42_79).trans (gd_t h_a0)).trans (bR_c fun r8 => ?_)
                refine (x_aload1 D42_82 rfl).trans ?_
                refine ((x_getI D42_83).trans (gd_t h_a0)).trans ?_
                refine (x_iload1 D42_86 rfl).trans ?_
                refine (x_iastore D42_87).trans (gw_c ?_)
                refine mI_i (fun m9 => X d 42 88 [.ref a0, .long y1, eU, .int x3, .int x4] [] m9) _ ?_
                intro m9
                refine (x_aload1 D42_88 rfl).trans ?_
                refine ((x_getR D42_89).trans (gd_t h_a0)).trans (bR_c fun r10 => ?_)
                refine (x_aload1 D42_92 rfl).trans ?_
                refine ((x_getI D42_93).trans (gd_t h_a0)).trans ?_
                refine (x_aload1 D42_96 rfl).trans ?_
                refine ((x_getR D42_97).trans (gd_t h_a0)).trans (bR_c fun r11 => ?_)
                refine (x_iload1 D42_100 rfl).trans ?_
                refine (x_iaload D42_101).trans (ga_c ?_)
                refine (x_iastore D42_102).trans (gw_c ?_)
                refine mI_i (fun m12 => X d 42 103 [.ref a0, .long y1, eU, .int x3, .int x4] [] m12) _ ?_
                intro m12
                refine (x_aload1 D42_103 rfl).trans ?_
                refine ((x_getR D42_104).trans (gd_t h_a0)).trans (bR_c fun r13 => ?_)
                refine (x_aload1 D42_107 rfl).trans ?_
                refine ((x_getI D42_108).trans (gd_t h_a0)).trans ?_
                refine (x_iload2 D42_111 rfl).trans ?_
                refine (x_iastore D42_113).trans (gw_c ?_)
                refine mI_i (fun m14 => X d 42 114 [.ref a0, .long y1, eU, .int x3, .int x4] [] m14) _ ?_
                intro m14
                refine (x_aload1 D42_114 rfl).trans ?_
                refine (x_dup1 D42_115 rfl).trans ?_
                refine ((x_getI D42_116).trans (gd_t h_a0)).trans ?_
                refine (x_iconst D42_119 (k := 1) (by decide)).trans ?_
                refine (x_iadd D42_120).trans ?_
                refine (x_putI D42_121 h_a0).trans ?_
                refine mI_i (fun m15 => X d 42 124 [.ref a0, .long y1, eU, .int x3, .int x4] [] m15) _ ?_
                intro m15
                exact x_vret D42_124 M42.2.2.1
theorem D43_0 : decode (mB 43) 0 = .ok (.aload_n 0, 1) := by decide +kernel
theorem D43_1 : GF 43 1 4 3 0 := ⟨171, false, by decide +kernel, by decide +kernel⟩
theorem D43_4 : decode (mB 43) 4 = .ok (.iconst 4, 1) := by decide +kernel
theorem D43_5 : BR 43 5 (.if_icmp .lt 9) (9) 14 := ⟨by decide +kernel, by decide, by decide⟩
theorem D43_14 : decode (mB 43) 14 = .ok (.aload_n 1, 1) := by decide +kernel
theorem D43_15 : CS 43 15 15 0 := ⟨.invokevirtual 95, by decide +kernel, by decide +kernel, by decide +kernel, by decide⟩
theorem D43_18 : decode (mB 43) 18 = .ok (.aload_n 2, 1) := by decide +kernel
theorem D43_19 : decode (mB 43) 19 = .ok (.aload_n 1, 1) := by decide +kernel
theorem D43_20 : decode (mB 43) 20 = .ok (.aload_n 0, 1) := by decide +kernel
theorem D43_21 : CS 43 21 44 0 := ⟨.invokevirtual 174, by decide +kernel, by decide +kernel, by decide +kernel, by decide⟩
theorem D43_24 : BR 43 24 (.ifCond .eq 12) (12) 36 := ⟨by decide +kernel, by decide, by decide⟩
theorem D43_36 : decode (mB 43) 36 = .ok (.iconst 0, 1) := by decide +kernel
theorem D43_37 : decode (mB 43) 37 = .ok (.ireturn, 1) := by decide +kernel
theorem D43_27 : decode (mB 43) 27 = .ok (.aload_n 1, 1) := by decide +kernel
theorem D43_28 : decode (mB 43) 28 = .ok (.bipush 59, 2) := by decide +kernel
theorem D43_30 : CS 43 30 32 0 := ⟨.invokevirtual 125, by decide +kernel, by decide +kernel, by decide +kernel, by decide⟩
theorem D43_33 : BR 43 33 (.ifCond .ne 5) (5) 38 := ⟨by decide +kernel, by decide, by decide⟩
theorem D43_38 : decode (mB 43) 38 = .ok (.aload_n 0, 1) := by decide +kernel
theorem D43_39 : decode (mB 43) 39 = .ok (.dup, 1) := by decide +kernel
theorem D43_40 : GF 43 40 4 15 1 := ⟨47, false, by decide +kernel, by decide +kernel⟩
theorem D43_43 : decode (mB 43) 43 = .ok (.aload_n 2, 1) := by decide +kernel
theorem D43_44 : decode (mB 43) 44 = .ok (.aload_n 0, 1) := by decide +kernel
theorem D43_45 : GF 43 45 4 0 0 := ⟨109, false, by decide +kernel, by decide +kernel⟩
theorem D43_48 : CS 43 48 53 0 := ⟨.invokevirtual 180, by decide +kernel, by decide +kernel, by decide +kernel, by decide⟩
theorem D43_51 : decode (mB 43) 51 = .ok (.land, 1) := by decide +kernel
theorem D43_52 : PF 43 52 4 15 1 := ⟨47, false, by decide +kernel, by decide +kernel, by decide +kernel, by decide⟩
theorem D43_55 : decode (mB 43) 55 = .ok (.aload_n 0, 1) := by decide +kernel
theorem D43_56 : decode (mB 43) 56 = .ok (.dup, 1) := by decide +kernel
theorem D43_57 : GF 43 57 4 3 0 := ⟨171, false, by decide +kernel, by decide +kernel⟩
theorem D43_60 : decode (mB 43) 60 = .ok (.iconst 1, 1) := by decide +kernel
theorem D43_61 : decode (mB 43) 61 = .ok (.iadd, 1) := by decide +kernel
theorem D43_62 : PF 43 62 4 3 0 := ⟨171, false, by decide +kernel, by decide +kernel, by decide +kernel, by decide⟩
theorem D43_65 : decode (mB 43) 65 = .ok (.iconst 1, 1) := by decide +kernel
theorem D43_66 : decode (mB 43) 66 = .ok (.ireturn, 1) := by decide +kernel
theorem D43_8 : decode (mB 43) 8 = .ok (.aload_n 1, 1) := by decide +kernel
theorem D43_9 : decode (mB 43) 9 = .ok (.iconst 5, 1) := by decide +kernel
theorem D43_10 : CS 43 10 25 0 := ⟨.invokevirtual 91, by decide +kernel, by decide +kernel, by decide +kernel, by decide⟩
theorem D43_13 : decode (mB 43) 13 = .ok (.ireturn, 1) := by decide +kernel
theorem Pa_readCommon_e (d : Nat) (a0 : Nat) (a1 : Nat) (a2 : Nat) (m : eM) (h_a0 : kd a0 = 4) (h_a1 : kd a1 = 8) (h_a2 : kd a2 = 2) : Pa_readCommon (d + 1) a0 a1 a2 m = if (gI m a0 3) < (4 : Int32) then (bV (Ta_step d a1 m) fun m1 => bI (Fo_read d a2 a1 a0 m1) fun v3 m2 => if v3 = 0 then (yI (0 : Int32) m2) else (bI (Ta_takeSign d a1 (59 : Int32) m2) fun v5 m4 => if ¬ v5 = 0 then (bL (Fo_worldsSo d a2 (gI m4 a0 0) m4) fun v7 m6 => mJ m6 a0 15 ((gL m4 a0 15) &&& v7) fun m8 => mI m8 a0 3 ((gI m8 a0 3) + (1 : Int32)) fun m9 => yI (1 : Int32) m9) else (yI (0 : Int32) m4))) else (bI (Ta_wrong d a1 (5 : Int32) m) fun v11 m10 => yB v11 m10) := by
  unfold Pa_readCommon
  refine (x_aload1 D43_0 rfl).trans ?_
  refine ((x_getI D43_1).trans (gd_t h_a0)).trans ?_
  refine (x_iconst D43_4 (k := 4) (by decide)).trans ?_
  refine (x_clt D43_5).trans (i_c ?_ ?_)
  · refine (x_aload1 D43_14 rfl).trans ?_
    refine (x_cV D43_15 M15  (I15 _) rfl rfl (ok_i M15 (I15 _) rfl rfl h_a1)).trans (bV_c fun m1 => ?_)
    refine (x_aload1 D43_18 rfl).trans ?_
    refine (x_aload1 D43_19 rfl).trans ?_
    refine (x_aload1 D43_20 rfl).trans ?_
    refine (x_cI D43_21 M44 (fun z => by cases z) (I44 _ _ _) rfl rfl (ok_i M44 (I44 _ _ _) rfl rfl h_a2)).trans (bI_c fun v3 m2 => ?_)
    refine (x_ifeq D43_24).trans (i_c ?_ ?_)
    · refine (x_iconst D43_36 (k := 0) (by decide)).trans ?_
      exact (x_bret D43_37 M43.2.2.1).trans yB0
    · refine (x_aload1 D43_27 rfl).trans ?_
      refine (x_bipush D43_28 (k := 59) (by decide)).trans ?_
      refine (x_cI D43_30 M32 (fun z => by cases z) (I32 _ _) rfl rfl (ok_i M32 (I32 _ _) rfl rfl h_a1)).trans (bI_c fun v5 m4 => ?_)
      refine (x_ifne D43_33).trans (i_c ?_ ?_)
      · refine (x_aload1 D43_38 rfl).trans ?_
        refine (x_dup1 D43_39 rfl).trans ?_
        refine ((x_getL D43_40).trans (gd_t h_a0)).trans ?_
        refine (x_aload1 D43_43 rfl).trans ?_
        refine (x_aload1 D43_44 rfl).trans ?_
        refine ((x_getI D43_45).trans (gd_t h_a0)).trans ?_
        refine (x_cL D43_48 M53  (I53 _ _) rfl rfl (ok_i M53 (I53 _ _) rfl rfl h_a2)).trans (bL_c fun v7 m6 => ?_)
        refine (x_land D43_51).trans ?_
        refine (x_putL D43_52 h_a0).trans ?_
        refine mJ_i (fun m8 => X (d + 1) 43 55 [.ref a0, .ref a1, .ref a2] [] m8) _ ?_
        intro m8
        refine (x_aload1 D43_55 rfl).trans ?_
        refine (x_dup1 D43_56 rfl).trans ?_
        refine ((x_getI D43_57).trans (gd_t h_a0)).trans ?_
        refine (x_iconst D43_60 (k := 1) (by decide)).trans ?_
        refine (x_iadd D43_61).trans ?_
        refine (x_putI D43_62 h_a0).trans ?_
        refine mI_i (fun m9 => X (d + 1) 43 65 [.ref a0, .ref a1, .ref a2] [] m9) _ ?_
        intro m9
        refine (x_iconst D43_65 (k := 1) (by decide)).trans ?_
        exact (x_bret D43_66 M43.2.2.1).trans yB1
      · refine (x_iconst D43_36 (k := 0) (by decide)).trans ?_
        exact (x_bret D43_37 M43.2.2.1).trans yB0
  · refine (x_aload1 D43_8 rfl).trans ?_
    refine (x_iconst D43_9 (k := 5) (by decide)).trans ?_
    refine (x_cI D43_10 M25 (fun z => by cases z) (I25 _ _) rfl rfl (ok_i M25 (I25 _ _) rfl rfl h_a1)).trans (bI_c fun v11 m10 => ?_)
    exact x_bret D43_13 M43.2.2.1
theorem D44_0 : decode (mB 44) 0 = .ok (.aload_n 0, 1) := by decide +kernel
theorem D44_1 : decode (mB 44) 1 = .ok (.iconst 0, 1) := by decide +kernel
theorem D44_2 : PF 44 2 2 2 0 := ⟨20, false, by decide +kernel, by decide +kernel, by decide +kernel, by decide⟩
theorem D44_5 : decode (mB 44) 5 = .ok (.aload_n 0, 1) := by decide +kernel
theorem D44_6 : decode (mB 44) 6 = .ok (.aload_n 1, 1) := by decide +kernel
theorem D44_7 : decode (mB 44) 7 = .ok (.aload_n 2, 1) := by decide +kernel
theorem D44_8 : decode (mB 44) 8 = .ok (.iconst 0, 1) := by decide +kernel
theorem D44_9 : CS 44 9 45 0 := ⟨.invokevirtual 24, by decide +kernel, by decide +kernel, by decide +kernel, by decide⟩
theorem D44_12 : decode (mB 44) 12 = .ok (.ireturn, 1) := by decide +kernel
theorem Fo_read_e (d : Nat) (a0 : Nat) (a1 : Nat) (a2 : Nat) (m : eM) (h_a0 : kd a0 = 2) (h_a1 : kd a1 = 8) (h_a2 : kd a2 = 4) : Fo_read (d + 1) a0 a1 a2 m = mI m a0 2 (0 : Int32) fun m1 => bI (Fo_readTests d a0 a1 a2 (0 : Int32) m1) fun v3 m2 => yB v3 m2 := by
  unfold Fo_read
  refine (x_aload1 D44_0 rfl).trans ?_
  refine (x_iconst D44_1 (k := 0) (by decide)).trans ?_
  refine (x_putI D44_2 h_a0).trans ?_
  refine mI_i (fun m1 => X (d + 1) 44 5 [.ref a0, .ref a1, .ref a2] [] m1) _ ?_
  intro m1
  refine (x_aload1 D44_5 rfl).trans ?_
  refine (x_aload1 D44_6 rfl).trans ?_
  refine (x_aload1 D44_7 rfl).trans ?_
  refine (x_iconst D44_8 (k := 0) (by decide)).trans ?_
  refine (x_cI D44_9 M45 (fun z => by cases z) (I45 _ _ _ _) rfl rfl (ok_i M45 (I45 _ _ _ _) rfl rfl h_a0)).trans (bI_c fun v3 m2 => ?_)
  exact x_bret D44_12 M44.2.2.1
theorem D45_0 : decode (mB 45) 0 = .ok (.aload_n 0, 1) := by decide +kernel
theorem D45_1 : decode (mB 45) 1 = .ok (.aload_n 1, 1) := by decide +kernel
theorem D45_2 : decode (mB 45) 2 = .ok (.aload_n 2, 1) := by decide +kernel
theorem D45_3 : decode (mB 45) 3 = .ok (.iload_n 3, 1) := by decide +kernel
theorem D45_4 : CS 45 4 46 0 := ⟨.invokevirtual 28, by decide +kernel, by decide +kernel, by decide +kernel, by decide⟩
theorem D45_7 : BR 45 7 (.ifCond .ne 5) (5) 12 := ⟨by decide +kernel, by decide, by decide⟩
theorem D45_12 : decode (mB 45) 12 = .ok (.iconst 0, 1) := by decide +kernel
theorem D45_13 : decode (mB 45) 13 = .ok (.istore 4, 2) := by decide +kernel
theorem D45_10 : decode (mB 45) 10 = .ok (.iconst 0, 1) := by decide +kernel
theorem D45_11 : decode (mB 45) 11 = .ok (.ireturn, 1) := by decide +kernel
theorem D45_15 : decode (mB 45) 15 = .ok (.iload 4, 2) := by decide +kernel
theorem D45_17 : decode (mB 45) 17 = .ok (.sipush 1000, 3) := by decide +kernel
theorem D45_20 : BR 45 20 (.if_icmp .ge 70) (70) 90 := ⟨by decide +kernel, by decide, by decide⟩
theorem D45_90 : decode (mB 45) 90 = .ok (.iconst 1, 1) := by decide +kernel
theorem D45_91 : decode (mB 45) 91 = .ok (.ireturn, 1) := by decide +kernel
theorem D45_23 : decode (mB 45) 23 = .ok (.aload_n 1, 1) := by decide +kernel
theorem R45_24 : lRes (mC 45) 31 = some (6385252) := by decide +kernel
theorem D45_24 : decode (mB 45) 24 = .ok (.ldc2_w 31, 3) := by decide +kernel
theorem D45_27 : CS 45 27 22 0 := ⟨.invokevirtual 33, by decide +kernel, by decide +kernel, by decide +kernel, by decide⟩
theorem D45_30 : BR 45 30 (.ifCond .ne 13) (13) 43 := ⟨by decide +kernel, by decide, by decide⟩
theorem D45_43 : decode (mB 45) 43 = .ok (.aload_n 1, 1) := by decide +kernel
theorem R45_44 : lRes (mC 45) 31 = some (6385252) := by decide +kernel
theorem D45_44 : decode (mB 45) 44 = .ok (.ldc2_w 31, 3) := by decide +kernel
theorem D45_47 : CS 45 47 22 0 := ⟨.invokevirtual 33, by decide +kernel, by decide +kernel, by decide +kernel, by decide⟩
theorem D45_50 : BR 45 50 (.ifCond .eq 8) (8) 58 := ⟨by decide +kernel, by decide, by decide⟩
theorem D45_58 : decode (mB 45) 58 = .ok (.bipush (-12), 2) := by decide +kernel
theorem D45_53 : decode (mB 45) 53 = .ok (.bipush (-11), 2) := by decide +kernel
theorem D45_55 : BR 45 55 (.goto 5) (5) 60 := ⟨by decide +kernel, by decide, by decide⟩
theorem D45_33 : decode (mB 45) 33 = .ok (.aload_n 1, 1) := by decide +kernel
theorem R45_34 : lRes (mC 45) 37 = some (28530) := by decide +kernel
theorem D45_34 : decode (mB 45) 34 = .ok (.ldc2_w 37, 3) := by decide +kernel
theorem D45_37 : CS 45 37 22 0 := ⟨.invokevirtual 33, by decide +kernel, by decide +kernel, by decide +kernel, by decide⟩
theorem D45_40 : BR 45 40 (.ifCond .eq 50) (50) 90 := ⟨by decide +kernel, by decide, by decide⟩
theorem D45_60 : decode (mB 45) 60 = .ok (.istore 5, 2) := by decide +kernel
theorem D45_62 : decode (mB 45) 62 = .ok (.aload_n 1, 1) := by decide +kernel
theorem D45_63 : CS 45 63 15 0 := ⟨.invokevirtual 39, by decide +kernel, by decide +kernel, by decide +kernel, by decide⟩
theorem D45_66 : decode (mB 45) 66 = .ok (.aload_n 0, 1) := by decide +kernel
theorem D45_67 : decode (mB 45) 67 = .ok (.aload_n 1, 1) := by decide +kernel
theorem D45_68 : decode (mB 45) 68 = .ok (.aload_n 2, 1) := by decide +kernel
theorem D45_69 : decode (mB 45) 69 = .ok (.iload_n 3, 1) := by decide +kernel
theorem D45_70 : CS 45 70 46 0 := ⟨.invokevirtual 28, by decide +kernel, by decide +kernel, by decide +kernel, by decide⟩
theorem D45_73 : BR 45 73 (.ifCond .ne 5) (5) 78 := ⟨by decide +kernel, by decide, by decide⟩
theorem D45_78 : decode (mB 45) 78 = .ok (.aload_n 0, 1) := by decide +kernel
theorem D45_79 : decode (mB 45) 79 = .ok (.iload 5, 2) := by decide +kernel
theorem D45_81 : CS 45 81 50 0 := ⟨.invokevirtual 42, by decide +kernel, by decide +kernel, by decide +kernel, by decide⟩
theorem D45_84 : decode (mB 45) 84 = .ok (.iinc 4 1, 3) := by decide +kernel
theorem D45_87 : BR 45 87 (.goto (-72)) (-72) 15 := ⟨by decide +kernel, by decide, by decide⟩
theorem D45_76 : decode (mB 45) 76 = .ok (.iconst 0, 1) := by decide +kernel
theorem D45_77 : decode (mB 45) 77 = .ok (.ireturn, 1) := by decide +kernel
theorem Fo_readTests_e (d : Nat) (a0 : Nat) (a1 : Nat) (a2 : Nat) (x3 : Int32) (m : eM) (h_a0 : kd a0 = 2) (h_a1 : kd a1 = 8) (h_a2 : kd a2 = 4) : Fo_readTests (d + 1) a0 a1 a2 x3 m = bI (Fo_readTest d a0 a1 a2 x3 m) fun v2 m1 => if ¬ v2 = 0 then (Fo_readTests_15 (d + 1) a0 a1 a2 x3 (0 : Int32) eU m1) else (yI (0 : Int32) m1) := by
  unfold Fo_readTests
  refine (x_aload1 D45_0 rfl).trans ?_
  refine (x_aload1 D45_1 rfl).trans ?_
  refine (x_aload1 D45_2 rfl).trans ?_
  refine (x_iload1 D45_3 rfl).trans ?_
  refine (x_cI D45_4 M46 (fun z => by cases z) (I46 _ _ _ _) rfl rfl (ok_i M46 (I46 _ _ _ _) rfl rfl h_a0)).trans (bI_c fun v2 m1 => ?_)
  refine (x_ifne D45_7).trans (i_c ?_ ?_)
  · refine (x_iconst D45_12 (k := 0) (by decide)).trans ?_
    refine (x_istore2 D45_13 (ls' := [.ref a0, .ref a1, .ref a2, .int x3, .int (0 : Int32), eU]) rfl rfl).trans ?_
    rfl
  · refine (x_iconst D45_10 (k := 0) (by decide)).trans ?_
    exact (x_bret D45_11 M45.2.2.1).trans yB0
theorem Fo_readTests_15_e (d : Nat) (a0 : Nat) (a1 : Nat) (a2 : Nat) (x3 : Int32) (x4 : Int32) (w5 : Value) (m : eM) (h_a0 : kd a0 = 2) (h_a1 : kd a1 = 8) (h_a2 : kd a2 = 4) : Fo_readTests_15 (d + 1) a0 a1 a2 x3 x4 w5 m = if (1000 : Int32) ≤ x4 then (yI (1 : Int32) m) else (bI (Ta_isWord d a1 (6385252 : Int64) m) fun v2 m1 => if ¬ v2 = 0 then (bI (Ta_isWord d a1 (6385252 : Int64) m1) fun v4 m3 => if v4 = 0 then (Fo_readTests_60 (d + 1) a0 a1 a2 x3 x4 w5 (-12 : Int32) m3) else (Fo_readTests_60 (d + 1) a0 a1 a2 x3 x4 w5 (-11 : Int32) m3)) else (bI (Ta_isWord d a1 (28530 : Int64) m1) fun v6 m5 => if v6 = 0 then (yI (1 : Int32) m5) else (bI (Ta_isWord d a1 (6385252 : Int64) m5) fun v8 m7 => if v8 = 0 then (Fo_readTests_60 (d + 1) a0 a1 a2 x3 x4 w5 (-12 : Int32) m7) else (Fo_readTests_60 (d + 1) a0 a1 a2 x3 x4 w5 (-11 : Int32) m7)))) := by
  unfold Fo_readTests_15
  refine (x_iload2 D45_15 rfl).trans ?_
  refine (x_sipush D45_17 (k := 1000) (by decide)).trans ?_
  refine (x_cge D45_20).trans (i_c ?_ ?_)
  · refine (x_iconst D45_90 (k := 1) (by decide)).trans ?_
    exact (x_bret D45_91 M45.2.2.1).trans yB1
  · refine (x_aload1 D45_23 rfl).trans ?_
    refine (x_ldc2 D45_24 R45_24).trans ?_
    refine (x_cI D45_27 M22 (fun z => by cases z) (I22 _ _) rfl rfl (ok_i M22 (I22 _ _) rfl rfl h_a1)).trans (bI_c fun v2 m1 => ?_)
    refine (x_ifne D45_30).trans (i_c ?_ ?_)
    · refine (x_aload1 D45_43 rfl).trans ?_
      refine (x_ldc2 D45_44 R45_44).trans ?_
      refine (x_cI D45_47 M22 (fun z => by cases z) (I22 _ _) rfl rfl (ok_i M22 (I22 _ _) rfl rfl h_a1)).trans (bI_c fun v4 m3 => ?_)
      refine (x_ifeq D45_50).trans (i_c ?_ ?_)
      · refine (x_bipush D45_58 (k := -12) (by decide)).trans ?_
        rfl
      · refine (x_bipush D45_53 (k := -11) (by decide)).trans ?_
        refine (x_goto D45_55).trans ?_
        rfl
    · refine (x_aload1 D45_33 rfl).trans ?_
      refine (x_ldc2 D45_34 R45_34).trans ?_
      refine (x_cI D45_37 M22 (fun z => by cases z) (I22 _ _) rfl rfl (ok_i M22 (I22 _ _) rfl rfl h_a1)).trans (bI_c fun v6 m5 => ?_)
      refine (x_ifeq D45_40).trans (i_c ?_ ?_)
      · refine (x_iconst D45_90 (k := 1) (by decide)).trans ?_
        exact (x_bret D45_91 M45.2.2.1).trans yB1
      · refine (x_aload1 D45_43 rfl).trans ?_
        refine (x_ldc2 D45_44 R45_44).trans ?_
        refine (x_cI D45_47 M22 (fun z => by cases z) (I22 _ _) rfl rfl (ok_i M22 (I22 _ _) rfl rfl h_a1)).trans (bI_c fun v8 m7 => ?_)
        refine (x_ifeq D45_50).trans (i_c ?_ ?_)
        · refine (x_bipush D45_58 (k := -12) (by decide)).trans ?_
          rfl
        · refine (x_bipush D45_53 (k := -11) (by decide)).trans ?_
          refine (x_goto D45_55).trans ?_
          rfl
theorem Fo_readTests_60_e (d : Nat) (a0 : Nat) (a1 : Nat) (a2 : Nat) (x3 : Int32) (x4 : Int32) (w5 : Value) (p0 : Int32) (m : eM) (h_a0 : kd a0 = 2) (h_a1 : kd a1 = 8) (h_a2 : kd a2 = 4) : Fo_readTests_60 (d + 1) a0 a1 a2 x3 x4 w5 p0 m = bV (Ta_step d a1 m) fun m1 => bI (Fo_readTest d a0 a1 a2 x3 m1) fun v3 m2 => if ¬ v3 = 0 then (bV (Fo_write d a0 p0 m2) fun m4 => Fo_readTests_15 (d + 1) a0 a1 a2 x3 (x4 + (1 : Int32)) (.int p0) m4) else (yI (0 : Int32) m2) := by
  unfold Fo_readTests_60
  refine (x_istore2 D45_60 (ls' := [.ref a0, .ref a1, .ref a2, .int x3, .int x4, .int p0]) rfl rfl).trans ?_
  refine (x_aload1 D45_62 rfl).trans ?_
  refine (x_cV D45_63 M15  (I15 _) rfl rfl (ok_i M15 (I15 _) rfl rfl h_a1)).trans (bV_c fun m1 => ?_)
  refine (x_aload1 D45_66 rfl).trans ?_
  refine (x_aload1 D45_67 rfl).trans ?_
  refine (x_aload1 D45_68 rfl).trans ?_
  refine (x_iload1 D45_69 rfl).trans ?_
  refine (x_cI D45_70 M46 (fun z => by cases z) (I46 _ _ _ _) rfl rfl (ok_i M46 (I46 _ _ _ _) rfl rfl h_a0)).trans (bI_c fun v3 m2 => ?_)
  refine (x_ifne D45_73).trans (i_c ?_ ?_)
  · refine (x_aload1 D45_78 rfl).trans ?_
    refine (x_iload2 D45_79 rfl).trans ?_
    refine (x_cV D45_81 M50  (I50 _ _) rfl rfl (ok_i M50 (I50 _ _) rfl rfl h_a0)).trans (bV_c fun m4 => ?_)
    refine (x_iinc D45_84 rfl (k := 1) (by decide) (ls' := [.ref a0, .ref a1, .ref a2, .int x3, .int (x4 + (1 : Int32)), .int p0]) rfl).trans ?_
    refine (x_goto D45_87).trans ?_
    rfl
  · refine (x_iconst D45_76 (k := 0) (by decide)).trans ?_
    exact (x_bret D45_77 M45.2.2.1).trans yB0
theorem D46_0 : decode (mB 46) 0 = .ok (.aload_n 0, 1) := by decide +kernel
theorem D46_1 : decode (mB 46) 1 = .ok (.aload_n 1, 1) := by decide +kernel
theorem D46_2 : decode (mB 46) 2 = .ok (.aload_n 2, 1) := by decide +kernel
theorem D46_3 : decode (mB 46) 3 = .ok (.iload_n 3, 1) := by decide +kernel
theorem D46_4 : CS 46 4 47 0 := ⟨.invokevirtual 46, by decide +kernel, by decide +kernel, by decide +kernel, by decide⟩
theorem D46_7 : BR 46 7 (.ifCond .ne 5) (5) 12 := ⟨by decide +kernel, by decide, by decide⟩
theorem D46_12 : decode (mB 46) 12 = .ok (.aload_n 1, 1) := by decide +kernel
theorem D46_13 : decode (mB 46) 13 = .ok (.bipush 60, 2) := by decide +kernel
theorem D46_15 : CS 46 15 33 0 := ⟨.invokevirtual 49, by decide +kernel, by decide +kernel, by decide +kernel, by decide⟩
theorem D46_18 : BR 46 18 (.ifCond .ne 14) (14) 32 := ⟨by decide +kernel, by decide, by decide⟩
theorem D46_32 : decode (mB 46) 32 = .ok (.aload_n 1, 1) := by decide +kernel
theorem D46_33 : decode (mB 46) 33 = .ok (.bipush 60, 2) := by decide +kernel
theorem D46_35 : CS 46 35 33 0 := ⟨.invokevirtual 49, by decide +kernel, by decide +kernel, by decide +kernel, by decide⟩
theorem D46_38 : BR 46 38 (.ifCond .eq 8) (8) 46 := ⟨by decide +kernel, by decide, by decide⟩
theorem D46_46 : decode (mB 46) 46 = .ok (.bipush (-14), 2) := by decide +kernel
theorem D46_41 : decode (mB 46) 41 = .ok (.bipush (-13), 2) := by decide +kernel
theorem D46_43 : BR 46 43 (.goto 5) (5) 48 := ⟨by decide +kernel, by decide, by decide⟩
theorem D46_21 : decode (mB 46) 21 = .ok (.aload_n 1, 1) := by decide +kernel
theorem D46_22 : decode (mB 46) 22 = .ok (.bipush 61, 2) := by decide +kernel
theorem D46_24 : CS 46 24 33 0 := ⟨.invokevirtual 49, by decide +kernel, by decide +kernel, by decide +kernel, by decide⟩
theorem D46_27 : BR 46 27 (.ifCond .ne 5) (5) 32 := ⟨by decide +kernel, by decide, by decide⟩
theorem D46_30 : decode (mB 46) 30 = .ok (.iconst 1, 1) := by decide +kernel
theorem D46_31 : decode (mB 46) 31 = .ok (.ireturn, 1) := by decide +kernel
theorem D46_10 : decode (mB 46) 10 = .ok (.iconst 0, 1) := by decide +kernel
theorem D46_11 : decode (mB 46) 11 = .ok (.ireturn, 1) := by decide +kernel
theorem D46_48 : decode (mB 46) 48 = .ok (.istore 4, 2) := by decide +kernel
theorem D46_50 : decode (mB 46) 50 = .ok (.aload_n 1, 1) := by decide +kernel
theorem D46_51 : CS 46 51 15 0 := ⟨.invokevirtual 39, by decide +kernel, by decide +kernel, by decide +kernel, by decide⟩
theorem D46_54 : decode (mB 46) 54 = .ok (.aload_n 0, 1) := by decide +kernel
theorem D46_55 : decode (mB 46) 55 = .ok (.aload_n 1, 1) := by decide +kernel
theorem D46_56 : decode (mB 46) 56 = .ok (.aload_n 2, 1) := by decide +kernel
theorem D46_57 : decode (mB 46) 57 = .ok (.iload_n 3, 1) := by decide +kernel
theorem D46_58 : CS 46 58 47 0 := ⟨.invokevirtual 46, by decide +kernel, by decide +kernel, by decide +kernel, by decide⟩
theorem D46_61 : BR 46 61 (.ifCond .ne 5) (5) 66 := ⟨by decide +kernel, by decide, by decide⟩
theorem D46_66 : decode (mB 46) 66 = .ok (.aload_n 0, 1) := by decide +kernel
theorem D46_67 : decode (mB 46) 67 = .ok (.iload 4, 2) := by decide +kernel
theorem D46_69 : CS 46 69 50 0 := ⟨.invokevirtual 42, by decide +kernel, by decide +kernel, by decide +kernel, by decide⟩
theorem D46_72 : decode (mB 46) 72 = .ok (.iconst 1, 1) := by decide +kernel
theorem D46_73 : decode (mB 46) 73 = .ok (.ireturn, 1) := by decide +kernel
theorem D46_64 : decode (mB 46) 64 = .ok (.iconst 0, 1) := by decide +kernel
theorem D46_65 : decode (mB 46) 65 = .ok (.ireturn, 1) := by decide +kernel
theorem Fo_readTest_e (d : Nat) (a0 : Nat) (a1 : Nat) (a2 : Nat) (x3 : Int32) (m : eM) (h_a0 : kd a0 = 2) (h_a1 : kd a1 = 8) (h_a2 : kd a2 = 4) : Fo_readTest (d + 1) a0 a1 a2 x3 m = bI (Fo_readSum d a0 a1 a2 x3 m) fun v2 m1 => if ¬ v2 = 0 then (bI (Ta_isSign d a1 (60 : Int32) m1) fun v4 m3 => if ¬ v4 = 0 then (bI (Ta_isSign d a1 (60 : Int32) m3) fun v6 m5 => if v6 = 0 then (Fo_readTest_48 (d + 1) a0 a1 a2 x3 (-14 : Int32) m5) else (Fo_readTest_48 (d + 1) a0 a1 a2 x3 (-13 : Int32) m5)) else (bI (Ta_isSign d a1 (61 : Int32) m3) fun v8 m7 => if ¬ v8 = 0 then (bI (Ta_isSign d a1 (60 : Int32) m7) fun v10 m9 => if v10 = 0 then (Fo_readTest_48 (d + 1) a0 a1 a2 x3 (-14 : Int32) m9) else (Fo_readTest_48 (d + 1) a0 a1 a2 x3 (-13 : Int32) m9)) else (yI (1 : Int32) m7))) else (yI (0 : Int32) m1) := by
  unfold Fo_readTest
  refine (x_aload1 D46_0 rfl).trans ?_
  refine (x_aload1 D46_1 rfl).trans ?_
  refine (x_aload1 D46_2 rfl).trans ?_
  refine (x_iload1 D46_3 rfl).trans ?_
  refine (x_cI D46_4 M47 (fun z => by cases z) (I47 _ _ _ _) rfl rfl (ok_i M47 (I47 _ _ _ _) rfl rfl h_a0)).trans (bI_c fun v2 m1 => ?_)
  refine (x_ifne D46_7).trans (i_c ?_ ?_)
  · refine (x_aload1 D46_12 rfl).trans ?_
    refine (x_bipush D46_13 (k := 60) (by decide)).trans ?_
    refine (x_cI D46_15 M33 (fun z => by cases z) (I33 _ _) rfl rfl (ok_i M33 (I33 _ _) rfl rfl h_a1)).trans (bI_c fun v4 m3 => ?_)
    refine (x_ifne D46_18).trans (i_c ?_ ?_)
    · refine (x_aload1 D46_32 rfl).trans ?_
      refine (x_bipush D46_33 (k := 60) (by decide)).trans ?_
      refine (x_cI D46_35 M33 (fun z => by cases z) (I33 _ _) rfl rfl (ok_i M33 (I33 _ _) rfl rfl h_a1)).trans (bI_c fun v6 m5 => ?_)
      refine (x_ifeq D46_38).trans (i_c ?_ ?_)
      · refine (x_bipush D46_46 (k := -14) (by decide)).trans ?_
        rfl
      · refine (x_bipush D46_41 (k := -13) (by decide)).trans ?_
        refine (x_goto D46_43).trans ?_
        rfl
    · refine (x_aload1 D46_21 rfl).trans ?_
      refine (x_bipush D46_22 (k := 61) (by decide)).trans ?_
      refine (x_cI D46_24 M33 (fun z => by cases z) (I33 _ _) rfl rfl (ok_i M33 (I33 _ _) rfl rfl h_a1)).trans (bI_c fun v8 m7 => ?_)
      refine (x_ifne D46_27).trans (i_c ?_ ?_)
      · refine (x_aload1 D46_32 rfl).trans ?_
        refine (x_bipush D46_33 (k := 60) (by decide)).trans ?_
        refine (x_cI D46_35 M33 (fun z => by cases z) (I33 _ _) rfl rfl (ok_i M33 (I33 _ _) rfl rfl h_a1)).trans (bI_c fun v10 m9 => ?_)
        refine (x_ifeq D46_38).trans (i_c ?_ ?_)
        · refine (x_bipush D46_46 (k := -14) (by decide)).trans ?_
          rfl
        · refine (x_bipush D46_41 (k := -13) (by decide)).trans ?_
          refine (x_goto D46_43).trans ?_
          rfl
      · refine (x_iconst D46_30 (k := 1) (by decide)).trans ?_
        exact (x_bret D46_31 M46.2.2.1).trans yB1
  · refine (x_iconst D46_10 (k := 0) (by decide)).trans ?_
    exact (x_bret D46_11 M46.2.2.1).trans yB0
theorem Fo_readTest_48_e (d : Nat) (a0 : Nat) (a1 : Nat) (a2 : Nat) (x3 : Int32) (p0 : Int32) (m : eM) (h_a0 : kd a0 = 2) (h_a1 : kd a1 = 8) (h_a2 : kd a2 = 4) : Fo_readTest_48 (d + 1) a0 a1 a2 x3 p0 m = bV (Ta_step d a1 m) fun m1 => bI (Fo_readSum d a0 a1 a2 x3 m1) fun v3 m2 => if ¬ v3 = 0 then (bV (Fo_write d a0 p0 m2) fun m4 => yI (1 : Int32) m4) else (yI (0 : Int32) m2) := by
  unfold Fo_readTest_48
  refine (x_istore2 D46_48 (ls' := [.ref a0, .ref a1, .ref a2, .int x3, .int p0]) rfl rfl).trans ?_
  refine (x_aload1 D46_50 rfl).trans ?_
  refine (x_cV D46_51 M15  (I15 _) rfl rfl (ok_i M15 (I15 _) rfl rfl h_a1)).trans (bV_c fun m1 => ?_)
  refine (x_aload1 D46_54 rfl).trans ?_
  refine (x_aload1 D46_55 rfl).trans ?_
  refine (x_aload1 D46_56 rfl).trans ?_
  refine (x_iload1 D46_57 rfl).trans ?_
  refine (x_cI D46_58 M47 (fun z => by cases z) (I47 _ _ _ _) rfl rfl (ok_i M47 (I47 _ _ _ _) rfl rfl h_a0)).trans (bI_c fun v3 m2 => ?_)
  refine (x_ifne D46_61).trans (i_c ?_ ?_)
  · refine (x_aload1 D46_66 rfl).trans ?_
    refine (x_iload2 D46_67 rfl).trans ?_
    refine (x_cV D46_69 M50  (I50 _ _) rfl rfl (ok_i M50 (I50 _ _) rfl rfl h_a0)).trans (bV_c fun m4 => ?_)
    refine (x_iconst D46_72 (k := 1) (by decide)).trans ?_
    exact (x_bret D46_73 M46.2.2.1).trans yB1
  · refine (x_iconst D46_64 (k := 0) (by decide)).trans ?_
    exact (x_bret D46_65 M46.2.2.1).trans yB0
theorem D47_0 : decode (mB 47) 0 = .ok (.aload_n 0, 1) := by decide +kernel
theorem D47_1 : decode (mB 47) 1 = .ok (.aload_n 1, 1) := by decide +kernel
theorem D47_2 : decode (mB 47) 2 = .ok (.aload_n 2, 1) := by decide +kernel
theorem D47_3 : decode (mB 47) 3 = .ok (.iload_n 3, 1) := by decide +kernel
theorem D47_4 : CS 47 4 48 0 := ⟨.invokevirtual 53, by decide +kernel, by decide +kernel, by decide +kernel, by decide⟩
theorem D47_7 : BR 47 7 (.ifCond .ne 5) (5) 12 := ⟨by decide +kernel, by decide, by decide⟩
theorem D47_12 : decode (mB 47) 12 = .ok (.iconst 0, 1) := by decide +kernel
theorem D47_13 : decode (mB 47) 13 = .ok (.istore 4, 2) := by decide +kernel
theorem D47_10 : decode (mB 47) 10 = .ok (.iconst 0, 1) := by decide +kernel
theorem D47_11 : decode (mB 47) 11 = .ok (.ireturn, 1) := by decide +kernel
theorem D47_15 : decode (mB 47) 15 = .ok (.iload 4, 2) := by decide +kernel
theorem D47_17 : decode (mB 47) 17 = .ok (.sipush 1000, 3) := by decide +kernel
theorem D47_20 : BR 47 20 (.if_icmp .ge 67) (67) 87 := ⟨by decide +kernel, by decide, by decide⟩
theorem D47_87 : decode (mB 47) 87 = .ok (.iconst 1, 1) := by decide +kernel
theorem D47_88 : decode (mB 47) 88 = .ok (.ireturn, 1) := by decide +kernel
theorem D47_23 : decode (mB 47) 23 = .ok (.aload_n 1, 1) := by decide +kernel
theorem D47_24 : decode (mB 47) 24 = .ok (.bipush 43, 2) := by decide +kernel
theorem D47_26 : CS 47 26 33 0 := ⟨.invokevirtual 49, by decide +kernel, by decide +kernel, by decide +kernel, by decide⟩
theorem D47_29 : BR 47 29 (.ifCond .ne 12) (12) 41 := ⟨by decide +kernel, by decide, by decide⟩
theorem D47_41 : decode (mB 47) 41 = .ok (.aload_n 1, 1) := by decide +kernel
theorem D47_42 : decode (mB 47) 42 = .ok (.bipush 43, 2) := by decide +kernel
theorem D47_44 : CS 47 44 33 0 := ⟨.invokevirtual 49, by decide +kernel, by decide +kernel, by decide +kernel, by decide⟩
theorem D47_47 : BR 47 47 (.ifCond .eq 8) (8) 55 := ⟨by decide +kernel, by decide, by decide⟩
theorem D47_55 : decode (mB 47) 55 = .ok (.bipush (-16), 2) := by decide +kernel
theorem D47_50 : decode (mB 47) 50 = .ok (.bipush (-15), 2) := by decide +kernel
theorem D47_52 : BR 47 52 (.goto 5) (5) 57 := ⟨by decide +kernel, by decide, by decide⟩
theorem D47_32 : decode (mB 47) 32 = .ok (.aload_n 1, 1) := by decide +kernel
theorem D47_33 : decode (mB 47) 33 = .ok (.bipush 45, 2) := by decide +kernel
theorem D47_35 : CS 47 35 33 0 := ⟨.invokevirtual 49, by decide +kernel, by decide +kernel, by decide +kernel, by decide⟩
theorem D47_38 : BR 47 38 (.ifCond .eq 49) (49) 87 := ⟨by decide +kernel, by decide, by decide⟩
theorem D47_57 : decode (mB 47) 57 = .ok (.istore 5, 2) := by decide +kernel
theorem D47_59 : decode (mB 47) 59 = .ok (.aload_n 1, 1) := by decide +kernel
theorem D47_60 : CS 47 60 15 0 := ⟨.invokevirtual 39, by decide +kernel, by decide +kernel, by decide +kernel, by decide⟩
theorem D47_63 : decode (mB 47) 63 = .ok (.aload_n 0, 1) := by decide +kernel
theorem D47_64 : decode (mB 47) 64 = .ok (.aload_n 1, 1) := by decide +kernel
theorem D47_65 : decode (mB 47) 65 = .ok (.aload_n 2, 1) := by decide +kernel
theorem D47_66 : decode (mB 47) 66 = .ok (.iload_n 3, 1) := by decide +kernel
theorem D47_67 : CS 47 67 48 0 := ⟨.invokevirtual 53, by decide +kernel, by decide +kernel, by decide +kernel, by decide⟩
theorem D47_70 : BR 47 70 (.ifCond .ne 5) (5) 75 := ⟨by decide +kernel, by decide, by decide⟩
theorem D47_75 : decode (mB 47) 75 = .ok (.aload_n 0, 1) := by decide +kernel
theorem D47_76 : decode (mB 47) 76 = .ok (.iload 5, 2) := by decide +kernel
theorem D47_78 : CS 47 78 50 0 := ⟨.invokevirtual 42, by decide +kernel, by decide +kernel, by decide +kernel, by decide⟩
theorem D47_81 : decode (mB 47) 81 = .ok (.iinc 4 1, 3) := by decide +kernel
theorem D47_84 : BR 47 84 (.goto (-69)) (-69) 15 := ⟨by decide +kernel, by decide, by decide⟩
theorem D47_73 : decode (mB 47) 73 = .ok (.iconst 0, 1) := by decide +kernel
theorem D47_74 : decode (mB 47) 74 = .ok (.ireturn, 1) := by decide +kernel
theorem Fo_readSum_e (d : Nat) (a0 : Nat) (a1 : Nat) (a2 : Nat) (x3 : Int32) (m : eM) (h_a0 : kd a0 = 2) (h_a1 : kd a1 = 8) (h_a2 : kd a2 = 4) : Fo_readSum (d + 1) a0 a1 a2 x3 m = bI (Fo_readProduct d a0 a1 a2 x3 m) fun v2 m1 => if ¬ v2 = 0 then (Fo_readSum_15 (d + 1) a0 a1 a2 x3 (0 : Int32) eU m1) else (yI (0 : Int32) m1) := by
  unfold Fo_readSum
  refine (x_aload1 D47_0 rfl).trans ?_
  refine (x_aload1 D47_1 rfl).trans ?_
  refine (x_aload1 D47_2 rfl).trans ?_
  refine (x_iload1 D47_3 rfl).trans ?_
  refine (x_cI D47_4 M48 (fun z => by cases z) (I48 _ _ _ _) rfl rfl (ok_i M48 (I48 _ _ _ _) rfl rfl h_a0)).trans (bI_c fun v2 m1 => ?_)
  refine (x_ifne D47_7).trans (i_c ?_ ?_)
  · refine (x_iconst D47_12 (k := 0) (by decide)).trans ?_
    refine (x_istore2 D47_13 (ls' := [.ref a0, .ref a1, .ref a2, .int x3, .int (0 : Int32), eU]) rfl rfl).trans ?_
    rfl
  · refine (x_iconst D47_10 (k := 0) (by decide)).trans ?_
    exact (x_bret D47_11 M47.2.2.1).trans yB0
theorem Fo_readSum_15_e (d : Nat) (a0 : Nat) (a1 : Nat) (a2 : Nat) (x3 : Int32) (x4 : Int32) (w5 : Value) (m : eM) (h_a0 : kd a0 = 2) (h_a1 : kd a1 = 8) (h_a2 : kd a2 = 4) : Fo_readSum_15 (d + 1) a0 a1 a2 x3 x4 w5 m = if (1000 : Int32) ≤ x4 then (yI (1 : Int32) m) else (bI (Ta_isSign d a1 (43 : Int32) m) fun v2 m1 => if ¬ v2 = 0 then (bI (Ta_isSign d a1 (43 : Int32) m1) fun v4 m3 => if v4 = 0 then (Fo_readSum_57 (d + 1) a0 a1 a2 x3 x4 w5 (-16 : Int32) m3) else (Fo_readSum_57 (d + 1) a0 a1 a2 x3 x4 w5 (-15 : Int32) m3)) else (bI (Ta_isSign d a1 (45 : Int32) m1) fun v6 m5 => if v6 = 0 then (yI (1 : Int32) m5) else (bI (Ta_isSign d a1 (43 : Int32) m5) fun v8 m7 => if v8 = 0 then (Fo_readSum_57 (d + 1) a0 a1 a2 x3 x4 w5 (-16 : Int32) m7) else (Fo_readSum_57 (d + 1) a0 a1 a2 x3 x4 w5 (-15 : Int32) m7)))) := by
  unfold Fo_readSum_15
  refine (x_iload2 D47_15 rfl).trans ?_
  refine (x_sipush D47_17 (k := 1000) (by decide)).trans ?_
  refine (x_cge D47_20).trans (i_c ?_ ?_)
  · refine (x_iconst D47_87 (k := 1) (by decide)).trans ?_
    exact (x_bret D47_88 M47.2.2.1).trans yB1
  · refine (x_aload1 D47_23 rfl).trans ?_
    refine (x_bipush D47_24 (k := 43) (by decide)).trans ?_
    refine (x_cI D47_26 M33 (fun z => by cases z) (I33 _ _) rfl rfl (ok_i M33 (I33 _ _) rfl rfl h_a1)).trans (bI_c fun v2 m1 => ?_)
    refine (x_ifne D47_29).trans (i_c ?_ ?_)
    · refine (x_aload1 D47_41 rfl).trans ?_
      refine (x_bipush D47_42 (k := 43) (by decide)).trans ?_
      refine (x_cI D47_44 M33 (fun z => by cases z) (I33 _ _) rfl rfl (ok_i M33 (I33 _ _) rfl rfl h_a1)).trans (bI_c fun v4 m3 => ?_)
      refine (x_ifeq D47_47).trans (i_c ?_ ?_)
      · refine (x_bipush D47_55 (k := -16) (by decide)).trans ?_
        rfl
      · refine (x_bipush D47_50 (k := -15) (by decide)).trans ?_
        refine (x_goto D47_52).trans ?_
        rfl
    · refine (x_aload1 D47_32 rfl).trans ?_
      refine (x_bipush D47_33 (k := 45) (by decide)).trans ?_
      refine (x_cI D47_35 M33 (fun z => by cases z) (I33 _ _) rfl rfl (ok_i M33 (I33 _ _) rfl rfl h_a1)).trans (bI_c fun v6 m5 => ?_)
      refine (x_ifeq D47_38).trans (i_c ?_ ?_)
      · refine (x_iconst D47_87 (k := 1) (by decide)).trans ?_
        exact (x_bret D47_88 M47.2.2.1).trans yB1
      · refine (x_aload1 D47_41 rfl).trans ?_
        refine (x_bipush D47_42 (k := 43) (by decide)).trans ?_
        refine (x_cI D47_44 M33 (fun z => by cases z) (I33 _ _) rfl rfl (ok_i M33 (I33 _ _) rfl rfl h_a1)).trans (bI_c fun v8 m7 => ?_)
        refine (x_ifeq D47_47).trans (i_c ?_ ?_)
        · refine (x_bipush D47_55 (k := -16) (by decide)).trans ?_
          rfl
        · refine (x_bipush D47_50 (k := -15) (by decide)).trans ?_
          refine (x_goto D47_52).trans ?_
          rfl
theorem Fo_readSum_57_e (d : Nat) (a0 : Nat) (a1 : Nat) (a2 : Nat) (x3 : Int32) (x4 : Int32) (w5 : Value) (p0 : Int32) (m : eM) (h_a0 : kd a0 = 2) (h_a1 : kd a1 = 8) (h_a2 : kd a2 = 4) : Fo_readSum_57 (d + 1) a0 a1 a2 x3 x4 w5 p0 m = bV (Ta_step d a1 m) fun m1 => bI (Fo_readProduct d a0 a1 a2 x3 m1) fun v3 m2 => if ¬ v3 = 0 then (bV (Fo_write d a0 p0 m2) fun m4 => Fo_readSum_15 (d + 1) a0 a1 a2 x3 (x4 + (1 : Int32)) (.int p0) m4) else (yI (0 : Int32) m2) := by
  unfold Fo_readSum_57
  refine (x_istore2 D47_57 (ls' := [.ref a0, .ref a1, .ref a2, .int x3, .int x4, .int p0]) rfl rfl).trans ?_
  refine (x_aload1 D47_59 rfl).trans ?_
  refine (x_cV D47_60 M15  (I15 _) rfl rfl (ok_i M15 (I15 _) rfl rfl h_a1)).trans (bV_c fun m1 => ?_)
  refine (x_aload1 D47_63 rfl).trans ?_
  refine (x_aload1 D47_64 rfl).trans ?_
  refine (x_aload1 D47_65 rfl).trans ?_
  refine (x_iload1 D47_66 rfl).trans ?_
  refine (x_cI D47_67 M48 (fun z => by cases z) (I48 _ _ _ _) rfl rfl (ok_i M48 (I48 _ _ _ _) rfl rfl h_a0)).trans (bI_c fun v3 m2 => ?_)
  refine (x_ifne D47_70).trans (i_c ?_ ?_)
  · refine (x_aload1 D47_75 rfl).trans ?_
    refine (x_iload2 D47_76 rfl).trans ?_
    refine (x_cV D47_78 M50  (I50 _ _) rfl rfl (ok_i M50 (I50 _ _) rfl rfl h_a0)).trans (bV_c fun m4 => ?_)
    refine (x_iinc D47_81 rfl (k := 1) (by decide) (ls' := [.ref a0, .ref a1, .ref a2, .int x3, .int (x4 + (1 : Int32)), .int p0]) rfl).trans ?_
    refine (x_goto D47_84).trans ?_
    rfl
  · refine (x_iconst D47_73 (k := 0) (by decide)).trans ?_
    exact (x_bret D47_74 M47.2.2.1).trans yB0
theorem D48_0 : decode (mB 48) 0 = .ok (.aload_n 0, 1) := by decide +kernel
theorem D48_1 : decode (mB 48) 1 = .ok (.aload_n 1, 1) := by decide +kernel
theorem D48_2 : decode (mB 48) 2 = .ok (.aload_n 2, 1) := by decide +kernel
theorem D48_3 : decode (mB 48) 3 = .ok (.iload_n 3, 1) := by decide +kernel
theorem D48_4 : CS 48 4 49 0 := ⟨.invokevirtual 56, by decide +kernel, by decide +kernel, by decide +kernel, by decide⟩
theorem D48_7 : BR 48 7 (.ifCond .ne 5) (5) 12 := ⟨by decide +kernel, by decide, by decide⟩
theorem D48_12 : decode (mB 48) 12 = .ok (.iconst 0, 1) := by decide +kernel
theorem D48_13 : decode (mB 48) 13 = .ok (.istore 4, 2) := by decide +kernel
theorem D48_10 : decode (mB 48) 10 = .ok (.iconst 0, 1) := by decide +kernel
theorem D48_11 : decode (mB 48) 11 = .ok (.ireturn, 1) := by decide +kernel
theorem D48_15 : decode (mB 48) 15 = .ok (.iload 4, 2) := by decide +kernel
theorem D48_17 : decode (mB 48) 17 = .ok (.sipush 1000, 3) := by decide +kernel
theorem D48_20 : BR 48 20 (.if_icmp .ge 40) (40) 60 := ⟨by decide +kernel, by decide, by decide⟩
theorem D48_60 : decode (mB 48) 60 = .ok (.iconst 1, 1) := by decide +kernel
theorem D48_61 : decode (mB 48) 61 = .ok (.ireturn, 1) := by decide +kernel
theorem D48_23 : decode (mB 48) 23 = .ok (.aload_n 1, 1) := by decide +kernel
theorem D48_24 : decode (mB 48) 24 = .ok (.bipush 42, 2) := by decide +kernel
theorem D48_26 : CS 48 26 33 0 := ⟨.invokevirtual 49, by decide +kernel, by decide +kernel, by decide +kernel, by decide⟩
theorem D48_29 : BR 48 29 (.ifCond .eq 31) (31) 60 := ⟨by decide +kernel, by decide, by decide⟩
theorem D48_32 : decode (mB 48) 32 = .ok (.aload_n 1, 1) := by decide +kernel
theorem D48_33 : CS 48 33 15 0 := ⟨.invokevirtual 39, by decide +kernel, by decide +kernel, by decide +kernel, by decide⟩
theorem D48_36 : decode (mB 48) 36 = .ok (.aload_n 0, 1) := by decide +kernel
theorem D48_37 : decode (mB 48) 37 = .ok (.aload_n 1, 1) := by decide +kernel
theorem D48_38 : decode (mB 48) 38 = .ok (.aload_n 2, 1) := by decide +kernel
theorem D48_39 : decode (mB 48) 39 = .ok (.iload_n 3, 1) := by decide +kernel
theorem D48_40 : CS 48 40 49 0 := ⟨.invokevirtual 56, by decide +kernel, by decide +kernel, by decide +kernel, by decide⟩
theorem D48_43 : BR 48 43 (.ifCond .ne 5) (5) 48 := ⟨by decide +kernel, by decide, by decide⟩
theorem D48_48 : decode (mB 48) 48 = .ok (.aload_n 0, 1) := by decide +kernel
theorem D48_49 : decode (mB 48) 49 = .ok (.bipush (-17), 2) := by decide +kernel
theorem D48_51 : CS 48 51 50 0 := ⟨.invokevirtual 42, by decide +kernel, by decide +kernel, by decide +kernel, by decide⟩
theorem D48_54 : decode (mB 48) 54 = .ok (.iinc 4 1, 3) := by decide +kernel
theorem D48_57 : BR 48 57 (.goto (-42)) (-42) 15 := ⟨by decide +kernel, by decide, by decide⟩
theorem D48_46 : decode (mB 48) 46 = .ok (.iconst 0, 1) := by decide +kernel
theorem D48_47 : decode (mB 48) 47 = .ok (.ireturn, 1) := by decide +kernel
theorem Fo_readProduct_e (d : Nat) (a0 : Nat) (a1 : Nat) (a2 : Nat) (x3 : Int32) (m : eM) (h_a0 : kd a0 = 2) (h_a1 : kd a1 = 8) (h_a2 : kd a2 = 4) : Fo_readProduct (d + 1) a0 a1 a2 x3 m = bI (Fo_readPart d a0 a1 a2 x3 m) fun v2 m1 => if ¬ v2 = 0 then (Fo_readProduct_15 (d + 1) a0 a1 a2 x3 (0 : Int32) m1) else (yI (0 : Int32) m1) := by
  unfold Fo_readProduct
  refine (x_aload1 D48_0 rfl).trans ?_
  refine (x_aload1 D48_1 rfl).trans ?_
  refine (x_aload1 D48_2 rfl).trans ?_
  refine (x_iload1 D48_3 rfl).trans ?_
  refine (x_cI D48_4 M49 (fun z => by cases z) (I49 _ _ _ _) rfl rfl (ok_i M49 (I49 _ _ _ _) rfl rfl h_a0)).trans (bI_c fun v2 m1 => ?_)
  refine (x_ifne D48_7).trans (i_c ?_ ?_)
  · refine (x_iconst D48_12 (k := 0) (by decide)).trans ?_
    refine (x_istore2 D48_13 (ls' := [.ref a0, .ref a1, .ref a2, .int x3, .int (0 : Int32)]) rfl rfl).trans ?_
    rfl
  · refine (x_iconst D48_10 (k := 0) (by decide)).trans ?_
    exact (x_bret D48_11 M48.2.2.1).trans yB0
theorem Fo_readProduct_15_e (d : Nat) (a0 : Nat) (a1 : Nat) (a2 : Nat) (x3 : Int32) (x4 : Int32) (m : eM) (h_a0 : kd a0 = 2) (h_a1 : kd a1 = 8) (h_a2 : kd a2 = 4) : Fo_readProduct_15 (d + 1) a0 a1 a2 x3 x4 m = if (1000 : Int32) ≤ x4 then (yI (1 : Int32) m) else (bI (Ta_isSign d a1 (42 : Int32) m) fun v2 m1 => if v2 = 0 then (yI (1 : Int32) m1) else (bV (Ta_step d a1 m1) fun m3 => bI (Fo_readPart d a0 a1 a2 x3 m3) fun v5 m4 => if ¬ v5 = 0 then (bV (Fo_write d a0 (-17 : Int32) m4) fun m6 => Fo_readProduct_15 (d + 1) a0 a1 a2 x3 (x4 + (1 : Int32)) m6) else (yI (0 : Int32) m4))) := by
  unfold Fo_readProduct_15
  refine (x_iload2 D48_15 rfl).trans ?_
  refine (x_sipush D48_17 (k := 1000) (by decide)).trans ?_
  refine (x_cge D48_20).trans (i_c ?_ ?_)
  · refine (x_iconst D48_60 (k := 1) (by decide)).trans ?_
    exact (x_bret D48_61 M48.2.2.1).trans yB1
  · refine (x_aload1 D48_23 rfl).trans ?_
    refine (x_bipush D48_24 (k := 42) (by decide)).trans ?_
    refine (x_cI D48_26 M33 (fun z => by cases z) (I33 _ _) rfl rfl (ok_i M33 (I33 _ _) rfl rfl h_a1)).trans (bI_c fun v2 m1 => ?_)
    refine (x_ifeq D48_29).trans (i_c ?_ ?_)
    · refine (x_iconst D48_60 (k := 1) (by decide)).trans ?_
      exact (x_bret D48_61 M48.2.2.1).trans yB1
    · refine (x_aload1 D48_32 rfl).trans ?_
      refine (x_cV D48_33 M15  (I15 _) rfl rfl (ok_i M15 (I15 _) rfl rfl h_a1)).trans (bV_c fun m3 => ?_)
      refine (x_aload1 D48_36 rfl).trans ?_
      refine (x_aload1 D48_37 rfl).trans ?_
      refine (x_aload1 D48_38 rfl).trans ?_
      refine (x_iload1 D48_39 rfl).trans ?_
      refine (x_cI D48_40 M49 (fun z => by cases z) (I49 _ _ _ _) rfl rfl (ok_i M49 (I49 _ _ _ _) rfl rfl h_a0)).trans (bI_c fun v5 m4 => ?_)
      refine (x_ifne D48_43).trans (i_c ?_ ?_)
      · refine (x_aload1 D48_48 rfl).trans ?_
        refine (x_bipush D48_49 (k := -17) (by decide)).trans ?_
        refine (x_cV D48_51 M50  (I50 _ _) rfl rfl (ok_i M50 (I50 _ _) rfl rfl h_a0)).trans (bV_c fun m6 => ?_)
        refine (x_iinc D48_54 rfl (k := 1) (by decide) (ls' := [.ref a0, .ref a1, .ref a2, .int x3, .int (x4 + (1 : Int32))]) rfl).trans ?_
        refine (x_goto D48_57).trans ?_
        rfl
      · refine (x_iconst D48_46 (k := 0) (by decide)).trans ?_
        exact (x_bret D48_47 M48.2.2.1).trans yB0
theorem D49_0 : decode (mB 49) 0 = .ok (.aload_n 1, 1) := by decide +kernel
theorem R49_1 : lRes (mC 49) 59 = some (7237492) := by decide +kernel
theorem D49_1 : decode (mB 49) 1 = .ok (.ldc2_w 59, 3) := by decide +kernel
theorem D49_4 : CS 49 4 22 0 := ⟨.invokevirtual 33, by decide +kernel, by decide +kernel, by decide +kernel, by decide⟩
theorem D49_7 : decode (mB 49) 7 = .ok (.istore 4, 2) := by decide +kernel
theorem D49_9 : decode (mB 49) 9 = .ok (.aload_n 1, 1) := by decide +kernel
theorem D49_10 : decode (mB 49) 10 = .ok (.bipush 40, 2) := by decide +kernel
theorem D49_12 : CS 49 12 33 0 := ⟨.invokevirtual 49, by decide +kernel, by decide +kernel, by decide +kernel, by decide⟩
theorem D49_15 : decode (mB 49) 15 = .ok (.istore 5, 2) := by decide +kernel
theorem D49_17 : decode (mB 49) 17 = .ok (.aload_n 1, 1) := by decide +kernel
theorem D49_18 : CS 49 18 26 0 := ⟨.invokevirtual 61, by decide +kernel, by decide +kernel, by decide +kernel, by decide⟩
theorem D49_21 : decode (mB 49) 21 = .ok (.istore 6, 2) := by decide +kernel
theorem D49_23 : decode (mB 49) 23 = .ok (.iload 4, 2) := by decide +kernel
theorem D49_25 : BR 49 25 (.ifCond .ne 27) (27) 52 := ⟨by decide +kernel, by decide, by decide⟩
theorem D49_28 : decode (mB 49) 28 = .ok (.iload 5, 2) := by decide +kernel
theorem D49_30 : BR 49 30 (.ifCond .ne 22) (22) 52 := ⟨by decide +kernel, by decide, by decide⟩
theorem D49_33 : decode (mB 49) 33 = .ok (.iload 6, 2) := by decide +kernel
theorem D49_35 : BR 49 35 (.ifCond .ne 17) (17) 52 := ⟨by decide +kernel, by decide, by decide⟩
theorem D49_38 : decode (mB 49) 38 = .ok (.aload_n 1, 1) := by decide +kernel
theorem D49_39 : CS 49 39 21 0 := ⟨.invokevirtual 65, by decide +kernel, by decide +kernel, by decide +kernel, by decide⟩
theorem D49_42 : decode (mB 49) 42 = .ok (.iconst 3, 1) := by decide +kernel
theorem D49_43 : BR 49 43 (.if_icmp .eq 9) (9) 52 := ⟨by decide +kernel, by decide, by decide⟩
theorem D49_46 : decode (mB 49) 46 = .ok (.aload_n 1, 1) := by decide +kernel
theorem D49_47 : decode (mB 49) 47 = .ok (.iconst 1, 1) := by decide +kernel
theorem D49_48 : CS 49 48 25 0 := ⟨.invokevirtual 69, by decide +kernel, by decide +kernel, by decide +kernel, by decide⟩
theorem D49_51 : decode (mB 49) 51 = .ok (.ireturn, 1) := by decide +kernel
theorem D49_52 : decode (mB 49) 52 = .ok (.iload 6, 2) := by decide +kernel
theorem D49_54 : BR 49 54 (.ifCond .eq 14) (14) 68 := ⟨by decide +kernel, by decide, by decide⟩
theorem D49_68 : decode (mB 49) 68 = .ok (.iconst (-1), 1) := by decide +kernel
theorem D49_69 : decode (mB 49) 69 = .ok (.istore 7, 2) := by decide +kernel
theorem D49_71 : decode (mB 49) 71 = .ok (.iload 6, 2) := by decide +kernel
theorem D49_73 : BR 49 73 (.ifCond .eq 15) (15) 88 := ⟨by decide +kernel, by decide, by decide⟩
theorem D49_76 : decode (mB 49) 76 = .ok (.iload 7, 2) := by decide +kernel
theorem D49_78 : decode (mB 49) 78 = .ok (.iconst (-1), 1) := by decide +kernel
theorem D49_79 : BR 49 79 (.if_icmp .ne 9) (9) 88 := ⟨by decide +kernel, by decide, by decide⟩
theorem D49_82 : decode (mB 49) 82 = .ok (.aload_n 1, 1) := by decide +kernel
theorem D49_83 : decode (mB 49) 83 = .ok (.iconst 2, 1) := by decide +kernel
theorem D49_84 : CS 49 84 25 0 := ⟨.invokevirtual 69, by decide +kernel, by decide +kernel, by decide +kernel, by decide⟩
theorem D49_87 : decode (mB 49) 87 = .ok (.ireturn, 1) := by decide +kernel
theorem D49_57 : decode (mB 49) 57 = .ok (.aload_n 2, 1) := by decide +kernel
theorem D49_58 : decode (mB 49) 58 = .ok (.aload_n 1, 1) := by decide +kernel
theorem D49_59 : CS 49 59 27 0 := ⟨.invokevirtual 73, by decide +kernel, by decide +kernel, by decide +kernel, by decide⟩
theorem D49_62 : CS 49 62 41 0 := ⟨.invokevirtual 77, by decide +kernel, by decide +kernel, by decide +kernel, by decide⟩
theorem D49_65 : BR 49 65 (.goto 4) (4) 69 := ⟨by decide +kernel, by decide, by decide⟩
theorem D49_88 : decode (mB 49) 88 = .ok (.iload_n 3, 1) := by decide +kernel
theorem D49_89 : decode (mB 49) 89 = .ok (.iconst 5, 1) := by decide +kernel
theorem D49_90 : BR 49 90 (.if_icmp .lt 9) (9) 99 := ⟨by decide +kernel, by decide, by decide⟩
theorem D49_99 : decode (mB 49) 99 = .ok (.iload 4, 2) := by decide +kernel
theorem D49_101 : BR 49 101 (.ifCond .ne 34) (34) 135 := ⟨by decide +kernel, by decide, by decide⟩
theorem D49_104 : decode (mB 49) 104 = .ok (.iload 5, 2) := by decide +kernel
theorem D49_106 : BR 49 106 (.ifCond .ne 29) (29) 135 := ⟨by decide +kernel, by decide, by decide⟩
theorem D49_109 : decode (mB 49) 109 = .ok (.aload_n 0, 1) := by decide +kernel
theorem D49_110 : decode (mB 49) 110 = .ok (.iload 6, 2) := by decide +kernel
theorem D49_112 : BR 49 112 (.ifCond .eq 10) (10) 122 := ⟨by decide +kernel, by decide, by decide⟩
theorem D49_122 : decode (mB 49) 122 = .ok (.aload_n 1, 1) := by decide +kernel
theorem D49_123 : CS 49 123 31 0 := ⟨.invokevirtual 83, by decide +kernel, by decide +kernel, by decide +kernel, by decide⟩
theorem D49_126 : CS 49 126 50 0 := ⟨.invokevirtual 42, by decide +kernel, by decide +kernel, by decide +kernel, by decide⟩
theorem D49_129 : decode (mB 49) 129 = .ok (.aload_n 1, 1) := by decide +kernel
theorem D49_130 : CS 49 130 15 0 := ⟨.invokevirtual 39, by decide +kernel, by decide +kernel, by decide +kernel, by decide⟩
theorem D49_133 : decode (mB 49) 133 = .ok (.iconst 1, 1) := by decide +kernel
theorem D49_134 : decode (mB 49) 134 = .ok (.ireturn, 1) := by decide +kernel
theorem D49_115 : decode (mB 49) 115 = .ok (.iconst (-1), 1) := by decide +kernel
theorem D49_116 : decode (mB 49) 116 = .ok (.iload 7, 2) := by decide +kernel
theorem D49_118 : decode (mB 49) 118 = .ok (.isub, 1) := by decide +kernel
theorem D49_119 : BR 49 119 (.goto 7) (7) 126 := ⟨by decide +kernel, by decide, by decide⟩
theorem D49_93 : decode (mB 49) 93 = .ok (.aload_n 1, 1) := by decide +kernel
theorem D49_94 : decode (mB 49) 94 = .ok (.iconst 5, 1) := by decide +kernel
theorem D49_95 : CS 49 95 25 0 := ⟨.invokevirtual 69, by decide +kernel, by decide +kernel, by decide +kernel, by decide⟩
theorem D49_98 : decode (mB 49) 98 = .ok (.ireturn, 1) := by decide +kernel
theorem D49_135 : decode (mB 49) 135 = .ok (.aload_n 1, 1) := by decide +kernel
theorem D49_136 : CS 49 136 15 0 := ⟨.invokevirtual 39, by decide +kernel, by decide +kernel, by decide +kernel, by decide⟩
theorem D49_139 : decode (mB 49) 139 = .ok (.iload 5, 2) := by decide +kernel
theorem D49_141 : BR 49 141 (.ifCond .eq 13) (13) 154 := ⟨by decide +kernel, by decide, by decide⟩
theorem D49_154 : decode (mB 49) 154 = .ok (.aload_n 0, 1) := by decide +kernel
theorem D49_155 : decode (mB 49) 155 = .ok (.aload_n 1, 1) := by decide +kernel
theorem D49_156 : decode (mB 49) 156 = .ok (.aload_n 2, 1) := by decide +kernel
theorem D49_157 : decode (mB 49) 157 = .ok (.iload_n 3, 1) := by decide +kernel
theorem D49_158 : CS 49 158 52 0 := ⟨.invokevirtual 89, by decide +kernel, by decide +kernel, by decide +kernel, by decide⟩
theorem D49_161 : decode (mB 49) 161 = .ok (.ireturn, 1) := by decide +kernel
theorem D49_144 : decode (mB 49) 144 = .ok (.aload_n 0, 1) := by decide +kernel
theorem D49_145 : decode (mB 49) 145 = .ok (.aload_n 1, 1) := by decide +kernel
theorem D49_146 : decode (mB 49) 146 = .ok (.aload_n 2, 1) := by decide +kernel
theorem D49_147 : decode (mB 49) 147 = .ok (.iload_n 3, 1) := by decide +kernel
theorem D49_148 : CS 49 148 51 0 := ⟨.invokevirtual 86, by decide +kernel, by decide +kernel, by decide +kernel, by decide⟩
theorem D49_151 : BR 49 151 (.goto 10) (10) 161 := ⟨by decide +kernel, by decide, by decide⟩
theorem Fo_readPart_e (d : Nat) (a0 : Nat) (a1 : Nat) (a2 : Nat) (x3 : Int32) (m : eM) (h_a0 : kd a0 = 2) (h_a1 : kd a1 = 8) (h_a2 : kd a2 = 4) : Fo_readPart (d + 1) a0 a1 a2 x3 m = bI (Ta_isWord d a1 (7237492 : Int64) m) fun v2 m1 => bI (Ta_isSign d a1 (40 : Int32) m1) fun v4 m3 => bI (Ta_isName d a1 m3) fun v6 m5 => if ¬ v2 = 0 then (Fo_readPart_52 (d + 1) a0 a1 a2 x3 v2 v4 v6 m5) else (if ¬ v4 = 0 then (Fo_readPart_52 (d + 1) a0 a1 a2 x3 v2 v4 v6 m5) else (if ¬ v6 = 0 then (Fo_readPart_52 (d + 1) a0 a1 a2 x3 v2 v4 v6 m5) else (bI (Ta_kind d a1 m5) fun v8 m7 => if v8 = (3 : Int32) then (Fo_readPart_52 (d + 1) a0 a1 a2 x3 v2 v4 v6 m7) else (bI (Ta_wrong d a1 (1 : Int32) m7) fun v10 m9 => yB v10 m9)))) := by
  unfold Fo_readPart
  refine (x_aload1 D49_0 rfl).trans ?_
  refine (x_ldc2 D49_1 R49_1).trans ?_
  refine (x_cI D49_4 M22 (fun z => by cases z) (I22 _ _) rfl rfl (ok_i M22 (I22 _ _) rfl rfl h_a1)).trans (bI_c fun v2 m1 => ?_)
  refine (x_istore2 D49_7 (ls' := [.ref a0, .ref a1, .ref a2, .int x3, .int v2, eU, eU, eU]) rfl rfl).trans ?_
  refine (x_aload1 D49_9 rfl).trans ?_
  refine (x_bipush D49_10 (k := 40) (by decide)).trans ?_
  refine (x_cI D49_12 M33 (fun z => by cases z) (I33 _ _) rfl rfl (ok_i M33 (I33 _ _) rfl rfl h_a1)).trans (bI_c fun v4 m3 => ?_)
  refine (x_istore2 D49_15 (ls' := [.ref a0, .ref a1, .ref a2, .int x3, .int v2, .int v4, eU, eU]) rfl rfl).trans ?_
  refine (x_aload1 D49_17 rfl).trans ?_
  refine (x_cI D49_18 M26 (fun z => by cases z) (I26 _) rfl rfl (ok_i M26 (I26 _) rfl rfl h_a1)).trans (bI_c fun v6 m5 => ?_)
  refine (x_istore2 D49_21 (ls' := [.ref a0, .ref a1, .ref a2, .int x3, .int v2, .int v4, .int v6, eU]) rfl rfl).trans ?_
  refine (x_iload2 D49_23 rfl).trans ?_
  refine (x_ifne D49_25).trans (i_c ?_ ?_)
  · rfl
  · refine (x_iload2 D49_28 rfl).trans ?_
    refine (x_ifne D49_30).trans (i_c ?_ ?_)
    · rfl
    · refine (x_iload2 D49_33 rfl).trans ?_
      refine (x_ifne D49_35).trans (i_c ?_ ?_)
      · rfl
      · refine (x_aload1 D49_38 rfl).trans ?_
        refine (x_cI D49_39 M21 (fun z => by cases z) (I21 _) rfl rfl (ok_i M21 (I21 _) rfl rfl h_a1)).trans (bI_c fun v8 m7 => ?_)
        refine (x_iconst D49_42 (k := 3) (by decide)).trans ?_
        refine (x_ceq D49_43).trans (i_c ?_ ?_)
        · rfl
        · refine (x_aload1 D49_46 rfl).trans ?_
          refine (x_iconst D49_47 (k := 1) (by decide)).trans ?_
          refine (x_cI D49_48 M25 (fun z => by cases z) (I25 _ _) rfl rfl (ok_i M25 (I25 _ _) rfl rfl h_a1)).trans (bI_c fun v10 m9 => ?_)
          exact x_bret D49_51 M49.2.2.1
theorem Fo_readPart_52_e (d : Nat) (a0 : Nat) (a1 : Nat) (a2 : Nat) (x3 : Int32) (x4 : Int32) (x5 : Int32) (x6 : Int32) (m : eM) (h_a0 : kd a0 = 2) (h_a1 : kd a1 = 8) (h_a2 : kd a2 = 4) : Fo_readPart_52 (d + 1) a0 a1 a2 x3 x4 x5 x6 m = if x6 = 0 then (if x6 = 0 then (Fo_readPart_88 (d + 1) a0 a1 a2 x3 x4 x5 x6 (-1 : Int32) m) else (bI (Ta_wrong d a1 (2 : Int32) m) fun v2 m1 => yB v2 m1)) else (bL (Ta_word d a1 m) fun v4 m3 => bI (Pa_factNamed d a2 v4 m3) fun v6 m5 => if x6 = 0 then (Fo_readPart_88 (d + 1) a0 a1 a2 x3 x4 x5 x6 v6 m5) else (if ¬ v6 = (-1 : Int32) then (Fo_readPart_88 (d + 1) a0 a1 a2 x3 x4 x5 x6 v6 m5) else (bI (Ta_wrong d a1 (2 : Int32) m5) fun v8 m7 => yB v8 m7))) := by
  unfold Fo_readPart_52
  refine (x_iload2 D49_52 rfl).trans ?_
  refine (x_ifeq D49_54).trans (i_c ?_ ?_)
  · refine (x_iconst D49_68 (k := -1) (by decide)).trans ?_
    refine (x_istore2 D49_69 (ls' := [.ref a0, .ref a1, .ref a2, .int x3, .int x4, .int x5, .int x6, .int (-1 : Int32)]) rfl rfl).trans ?_
    refine (x_iload2 D49_71 rfl).trans ?_
    refine (x_ifeq D49_73).trans (i_c ?_ ?_)
    · rfl
    · refine (x_iload2 D49_76 rfl).trans ?_
      refine (x_iconst D49_78 (k := -1) (by decide)).trans ?_
      refine ((x_cne D49_79).trans (if_neg (by decide))).trans ?_
      refine (x_aload1 D49_82 rfl).trans ?_
      refine (x_iconst D49_83 (k := 2) (by decide)).trans ?_
      refine (x_cI D49_84 M25 (fun z => by cases z) (I25 _ _) rfl rfl (ok_i M25 (I25 _ _) rfl rfl h_a1)).trans (bI_c fun v2 m1 => ?_)
      exact x_bret D49_87 M49.2.2.1
  · refine (x_aload1 D49_57 rfl).trans ?_
    refine (x_aload1 D49_58 rfl).trans ?_
    refine (x_cL D49_59 M27  (I27 _) rfl rfl (ok_i M27 (I27 _) rfl rfl h_a1)).trans (bL_c fun v4 m3 => ?_)
    refine (x_cI D49_62 M41 (fun z => by cases z) (I41 _ _) rfl rfl (ok_i M41 (I41 _ _) rfl rfl h_a2)).trans (bI_c fun v6 m5 => ?_)
    refine (x_goto D49_65).trans ?_
    refine (x_istore2 D49_69 (ls' := [.ref a0, .ref a1, .ref a2, .int x3, .int x4, .int x5, .int x6, .int v6]) rfl rfl).trans ?_
    refine (x_iload2 D49_71 rfl).trans ?_
    refine (x_ifeq D49_73).trans (i_c ?_ ?_)
    · rfl
    · refine (x_iload2 D49_76 rfl).trans ?_
      refine (x_iconst D49_78 (k := -1) (by decide)).trans ?_
      refine (x_cne D49_79).trans (i_c ?_ ?_)
      · rfl
      · refine (x_aload1 D49_82 rfl).trans ?_
        refine (x_iconst D49_83 (k := 2) (by decide)).trans ?_
        refine (x_cI D49_84 M25 (fun z => by cases z) (I25 _ _) rfl rfl (ok_i M25 (I25 _ _) rfl rfl h_a1)).trans (bI_c fun v8 m7 => ?_)
        exact x_bret D49_87 M49.2.2.1
theorem Fo_readPart_88_e (d : Nat) (a0 : Nat) (a1 : Nat) (a2 : Nat) (x3 : Int32) (x4 : Int32) (x5 : Int32) (x6 : Int32) (x7 : Int32) (m : eM) (h_a0 : kd a0 = 2) (h_a1 : kd a1 = 8) (h_a2 : kd a2 = 4) : Fo_readPart_88 (d + 1) a0 a1 a2 x3 x4 x5 x6 x7 m = if x3 < (5 : Int32) then (if ¬ x4 = 0 then (Fo_readPart_135 (d + 1) a0 a1 a2 x3 x4 x5 x6 x7 m) else (if ¬ x5 = 0 then (Fo_readPart_135 (d + 1) a0 a1 a2 x3 x4 x5 x6 x7 m) else (if x6 = 0 then (bI (Ta_number d a1 m) fun v2 m1 => bV (Fo_write d a0 v2 m1) fun m3 => bV (Ta_step d a1 m3) fun m4 => yI (1 : Int32) m4) else (bV (Fo_write d a0 ((-1 : Int32) - x7) m) fun m5 => bV (Ta_step d a1 m5) fun m6 => yI (1 : Int32) m6)))) else (bI (Ta_wrong d a1 (5 : Int32) m) fun v8 m7 => yB v8 m7) := by
  unfold Fo_readPart_88
  refine (x_iload1 D49_88 rfl).trans ?_
  refine (x_iconst D49_89 (k := 5) (by decide)).trans ?_
  refine (x_clt D49_90).trans (i_c ?_ ?_)
  · refine (x_iload2 D49_99 rfl).trans ?_
    refine (x_ifne D49_101).trans (i_c ?_ ?_)
    · rfl
    · refine (x_iload2 D49_104 rfl).trans ?_
      refine (x_ifne D49_106).trans (i_c ?_ ?_)
      · rfl
      · refine (x_aload1 D49_109 rfl).trans ?_
        refine (x_iload2 D49_110 rfl).trans ?_
        refine (x_ifeq D49_112).trans (i_c ?_ ?_)
        · refine (x_aload1 D49_122 rfl).trans ?_
          refine (x_cI D49_123 M31 (fun z => by cases z) (I31 _) rfl rfl (ok_i M31 (I31 _) rfl rfl h_a1)).trans (bI_c fun v2 m1 => ?_)
          refine (x_cV D49_126 M50  (I50 _ _) rfl rfl (ok_i M50 (I50 _ _) rfl rfl h_a0)).trans (bV_c fun m3 => ?_)
          refine (x_aload1 D49_129 rfl).trans ?_
          refine (x_cV D49_130 M15  (I15 _) rfl rfl (ok_i M15 (I15 _) rfl rfl h_a1)).trans (bV_c fun m4 => ?_)
          refine (x_iconst D49_133 (k := 1) (by decide)).trans ?_
          exact (x_bret D49_134 M49.2.2.1).trans yB1
        · refine (x_iconst D49_115 (k := -1) (by decide)).trans ?_
          refine (x_iload2 D49_116 rfl).trans ?_
          refine (x_isub D49_118).trans ?_
          refine (x_goto D49_119).trans ?_
          refine (x_cV D49_126 M50  (I50 _ _) rfl rfl (ok_i M50 (I50 _ _) rfl rfl h_a0)).trans (bV_c fun m5 => ?_)
          refine (x_aload1 D49_129 rfl).trans ?_
          refine (x_cV D49_130 M15  (I15 _) rfl rfl (ok_i M15 (I15 _) rfl rfl h_a1)).trans (bV_c fun m6 => ?_)
          refine (x_iconst D49_133 (k := 1) (by decide)).trans ?_
          exact (x_bret D49_134 M49.2.2.1).trans yB1
  · refine (x_aload1 D49_93 rfl).trans ?_
    refine (x_iconst D49_94 (k := 5) (by decide)).trans ?_
    refine (x_cI D49_95 M25 (fun z => by cases z) (I25 _ _) rfl rfl (ok_i M25 (I25 _ _) rfl rfl h_a1)).trans (bI_c fun v8 m7 => ?_)
    exact x_bret D49_98 M49.2.2.1
theorem Fo_readPart_135_e (d : Nat) (a0 : Nat) (a1 : Nat) (a2 : Nat) (x3 : Int32) (x4 : Int32) (x5 : Int32) (x6 : Int32) (x7 : Int32) (m : eM) (h_a0 : kd a0 = 2) (h_a1 : kd a1 = 8) (h_a2 : kd a2 = 4) : Fo_readPart_135 (d + 1) a0 a1 a2 x3 x4 x5 x6 x7 m = bV (Ta_step d a1 m) fun m1 => if x5 = 0 then (bI (Fo_readNot d a0 a1 a2 x3 m1) fun v3 m2 => yB v3 m2) else (bI (Fo_readClosed d a0 a1 a2 x3 m1) fun v5 m4 => yB v5 m4) := by
  unfold Fo_readPart_135
  refine (x_aload1 D49_135 rfl).trans ?_
  refine (x_cV D49_136 M15  (I15 _) rfl rfl (ok_i M15 (I15 _) rfl rfl h_a1)).trans (bV_c fun m1 => ?_)
  refine (x_iload2 D49_139 rfl).trans ?_
  refine (x_ifeq D49_141).trans (i_c ?_ ?_)
  · refine (x_aload1 D49_154 rfl).trans ?_
    refine (x_aload1 D49_155 rfl).trans ?_
    refine (x_aload1 D49_156 rfl).trans ?_
    refine (x_iload1 D49_157 rfl).trans ?_
    refine (x_cI D49_158 M52 (fun z => by cases z) (I52 _ _ _ _) rfl rfl (ok_i M52 (I52 _ _ _ _) rfl rfl h_a0)).trans (bI_c fun v3 m2 => ?_)
    exact x_bret D49_161 M49.2.2.1
  · refine (x_aload1 D49_144 rfl).trans ?_
    refine (x_aload1 D49_145 rfl).trans ?_
    refine (x_aload1 D49_146 rfl).trans ?_
    refine (x_iload1 D49_147 rfl).trans ?_
    refine (x_cI D49_148 M51 (fun z => by cases z) (I51 _ _ _ _) rfl rfl (ok_i M51 (I51 _ _ _ _) rfl rfl h_a0)).trans (bI_c fun v5 m4 => ?_)
    refine (x_goto D49_151).trans ?_
    exact x_bret D49_161 M49.2.2.1
theorem D50_0 : decode (mB 50) 0 = .ok (.aload_n 0, 1) := by decide +kernel
theorem D50_1 : GF 50 1 2 2 0 := ⟨20, false, by decide +kernel, by decide +kernel⟩
theorem D50_4 : BR 50 4 (.ifCond .lt 35) (35) 39 := ⟨by decide +kernel, by decide, by decide⟩
theorem D50_39 : decode (mB 50) 39 = .ok (.return_, 1) := by decide +kernel
theorem D50_7 : decode (mB 50) 7 = .ok (.aload_n 0, 1) := by decide +kernel
theorem D50_8 : GF 50 8 2 2 0 := ⟨20, false, by decide +kernel, by decide +kernel⟩
theorem D50_11 : decode (mB 50) 11 = .ok (.aload_n 0, 1) := by decide +kernel
theorem D50_12 : GF 50 12 2 0 2 := ⟨13, true, by decide +kernel, by decide +kernel⟩
theorem D50_15 : decode (mB 50) 15 = .ok (.arraylength, 1) := by decide +kernel
theorem D50_16 : BR 50 16 (.if_icmp .ge 23) (23) 39 := ⟨by decide +kernel, by decide, by decide⟩
theorem D50_19 : decode (mB 50) 19 = .ok (.aload_n 0, 1) := by decide +kernel
theorem D50_20 : GF 50 20 2 0 2 := ⟨13, true, by decide +kernel, by decide +kernel⟩
theorem D50_23 : decode (mB 50) 23 = .ok (.aload_n 0, 1) := by decide +kernel
theorem D50_24 : GF 50 24 2 2 0 := ⟨20, false, by decide +kernel, by decide +kernel⟩
theorem D50_27 : decode (mB 50) 27 = .ok (.iload_n 1, 1) := by decide +kernel
theorem D50_28 : decode (mB 50) 28 = .ok (.iastore, 1) := by decide +kernel
theorem D50_29 : decode (mB 50) 29 = .ok (.aload_n 0, 1) := by decide +kernel
theorem D50_30 : decode (mB 50) 30 = .ok (.dup, 1) := by decide +kernel
theorem D50_31 : GF 50 31 2 2 0 := ⟨20, false, by decide +kernel, by decide +kernel⟩
theorem D50_34 : decode (mB 50) 34 = .ok (.iconst 1, 1) := by decide +kernel
theorem D50_35 : decode (mB 50) 35 = .ok (.iadd, 1) := by decide +kernel
theorem D50_36 : PF 50 36 2 2 0 := ⟨20, false, by decide +kernel, by decide +kernel, by decide +kernel, by decide⟩
theorem Fo_write_e (d : Nat) (a0 : Nat) (x1 : Int32) (m : eM) (h_a0 : kd a0 = 2) : Fo_write d a0 x1 m = if (gI m a0 2) < 0 then (yV m) else (bR (gR m a0 0) fun r1 => gl r1 (if ((aln m r1).toInt32) ≤ (gI m a0 2) then (yV m) else (bR (gR m a0 0) fun r2 => gw m r2 20 (gI m a0 2) (mI m r2 (gI m a0 2).toNatClampNeg x1 fun m3 => mI m3 a0 2 ((gI m3 a0 2) + (1 : Int32)) fun m4 => yV m4)))) := by
  unfold Fo_write
  refine (x_aload1 D50_0 rfl).trans ?_
  refine ((x_getI D50_1).trans (gd_t h_a0)).trans ?_
  refine (x_iflt D50_4).trans (i_c ?_ ?_)
  · exact x_vret D50_39 M50.2.2.1
  · refine (x_aload1 D50_7 rfl).trans ?_
    refine ((x_getI D50_8).trans (gd_t h_a0)).trans ?_
    refine (x_aload1 D50_11 rfl).trans ?_
    refine ((x_getR D50_12).trans (gd_t h_a0)).trans (bR_c fun r1 => ?_)
    refine (x_alen D50_15).trans (gl_c ?_)
    refine (x_cge D50_16).trans (i_c ?_ ?_)
    · exact x_vret D50_39 M50.2.2.1
    · refine (x_aload1 D50_19 rfl).trans ?_
      refine ((x_getR D50_20).trans (gd_t h_a0)).trans (bR_c fun r2 => ?_)
      refine (x_aload1 D50_23 rfl).trans ?_
      refine ((x_getI D50_24).trans (gd_t h_a0)).trans ?_
      refine (x_iload1 D50_27 rfl).trans ?_
      refine (x_iastore D50_28).trans (gw_c ?_)
      refine mI_i (fun m3 => X d 50 29 [.ref a0, .int x1] [] m3) _ ?_
      intro m3
      refine (x_aload1 D50_29 rfl).trans ?_
      refine (x_dup1 D50_30 rfl).trans ?_
      refine ((x_getI D50_31).trans (gd_t h_a0)).trans ?_
      refine (x_iconst D50_34 (k := 1) (by decide)).trans ?_
      refine (x_iadd D50_35).trans ?_
      refine (x_putI D50_36 h_a0).trans ?_
      refine mI_i (fun m4 => X d 50 39 [.ref a0, .int x1] [] m4) _ ?_
      intro m4
      exact x_vret D50_39 M50.2.2.1
theorem D51_0 : decode (mB 51) 0 = .ok (.aload_n 0, 1) := by decide +kernel
theorem D51_1 : decode (mB 51) 1 = .ok (.aload_n 1, 1) := by decide +kernel
theorem D51_2 : decode (mB 51) 2 = .ok (.aload_n 2, 1) := by decide +kernel
theorem D51_3 : decode (mB 51) 3 = .ok (.iload_n 3, 1) := by decide +kernel
theorem D51_4 : decode (mB 51) 4 = .ok (.iconst 1, 1) := by decide +kernel
theorem D51_5 : decode (mB 51) 5 = .ok (.iadd, 1) := by decide +kernel
theorem D51_6 : CS 51 6 45 0 := ⟨.invokevirtual 24, by decide +kernel, by decide +kernel, by decide +kernel, by decide⟩
theorem D51_9 : BR 51 9 (.ifCond .ne 5) (5) 14 := ⟨by decide +kernel, by decide, by decide⟩
theorem D51_14 : decode (mB 51) 14 = .ok (.aload_n 1, 1) := by decide +kernel
theorem D51_15 : decode (mB 51) 15 = .ok (.bipush 41, 2) := by decide +kernel
theorem D51_17 : CS 51 17 33 0 := ⟨.invokevirtual 49, by decide +kernel, by decide +kernel, by decide +kernel, by decide⟩
theorem D51_20 : BR 51 20 (.ifCond .ne 9) (9) 29 := ⟨by decide +kernel, by decide, by decide⟩
theorem D51_29 : decode (mB 51) 29 = .ok (.aload_n 1, 1) := by decide +kernel
theorem D51_30 : CS 51 30 15 0 := ⟨.invokevirtual 39, by decide +kernel, by decide +kernel, by decide +kernel, by decide⟩
theorem D51_33 : decode (mB 51) 33 = .ok (.iconst 1, 1) := by decide +kernel
theorem D51_34 : decode (mB 51) 34 = .ok (.ireturn, 1) := by decide +kernel
theorem D51_23 : decode (mB 51) 23 = .ok (.aload_n 1, 1) := by decide +kernel
theorem D51_24 : decode (mB 51) 24 = .ok (.iconst 1, 1) := by decide +kernel
theorem D51_25 : CS 51 25 25 0 := ⟨.invokevirtual 69, by decide +kernel, by decide +kernel, by decide +kernel, by decide⟩
theorem D51_28 : decode (mB 51) 28 = .ok (.ireturn, 1) := by decide +kernel
theorem D51_12 : decode (mB 51) 12 = .ok (.iconst 0, 1) := by decide +kernel
theorem D51_13 : decode (mB 51) 13 = .ok (.ireturn, 1) := by decide +kernel
theorem Fo_readClosed_e (d : Nat) (a0 : Nat) (a1 : Nat) (a2 : Nat) (x3 : Int32) (m : eM) (h_a0 : kd a0 = 2) (h_a1 : kd a1 = 8) (h_a2 : kd a2 = 4) : Fo_readClosed (d + 1) a0 a1 a2 x3 m = bI (Fo_readTests d a0 a1 a2 (x3 + (1 : Int32)) m) fun v2 m1 => if ¬ v2 = 0 then (bI (Ta_isSign d a1 (41 : Int32) m1) fun v4 m3 => if ¬ v4 = 0 then (bV (Ta_step d a1 m3) fun m5 => yI (1 : Int32) m5) else (bI (Ta_wrong d a1 (1 : Int32) m3) fun v7 m6 => yB v7 m6)) else (yI (0 : Int32) m1) := by
  unfold Fo_readClosed
  refine (x_aload1 D51_0 rfl).trans ?_
  refine (x_aload1 D51_1 rfl).trans ?_
  refine (x_aload1 D51_2 rfl).trans ?_
  refine (x_iload1 D51_3 rfl).trans ?_
  refine (x_iconst D51_4 (k := 1) (by decide)).trans ?_
  refine (x_iadd D51_5).trans ?_
  refine (x_cI D51_6 M45 (fun z => by cases z) (I45 _ _ _ _) rfl rfl (ok_i M45 (I45 _ _ _ _) rfl rfl h_a0)).trans (bI_c fun v2 m1 => ?_)
  refine (x_ifne D51_9).trans (i_c ?_ ?_)
  · refine (x_aload1 D51_14 rfl).trans ?_
    refine (x_bipush D51_15 (k := 41) (by decide)).trans ?_
    refine (x_cI D51_17 M33 (fun z => by cases z) (I33 _ _) rfl rfl (ok_i M33 (I33 _ _) rfl rfl h_a1)).trans (bI_c fun v4 m3 => ?_)
    refine (x_ifne D51_20).trans (i_c ?_ ?_)
    · refine (x_aload1 D51_29 rfl).trans ?_
      refine (x_cV D51_30 M15  (I15 _) rfl rfl (ok_i M15 (I15 _) rfl rfl h_a1)).trans (bV_c fun m5 => ?_)
      refine (x_iconst D51_33 (k := 1) (by decide)).trans ?_
      exact (x_bret D51_34 M51.2.2.1).trans yB1
    · refine (x_aload1 D51_23 rfl).trans ?_
      refine (x_iconst D51_24 (k := 1) (by decide)).trans ?_
      refine (x_cI D51_25 M25 (fun z => by cases z) (I25 _ _) rfl rfl (ok_i M25 (I25 _ _) rfl rfl h_a1)).trans (bI_c fun v7 m6 => ?_)
      exact x_bret D51_28 M51.2.2.1
  · refine (x_iconst D51_12 (k := 0) (by decide)).trans ?_
    exact (x_bret D51_13 M51.2.2.1).trans yB0
theorem D52_0 : decode (mB 52) 0 = .ok (.aload_n 0, 1) := by decide +kernel
theorem D52_1 : decode (mB 52) 1 = .ok (.aload_n 1, 1) := by decide +kernel
theorem D52_2 : decode (mB 52) 2 = .ok (.aload_n 2, 1) := by decide +kernel
theorem D52_3 : decode (mB 52) 3 = .ok (.iload_n 3, 1) := by decide +kernel
theorem D52_4 : decode (mB 52) 4 = .ok (.iconst 1, 1) := by decide +kernel
theorem D52_5 : decode (mB 52) 5 = .ok (.iadd, 1) := by decide +kernel
theorem D52_6 : CS 52 6 49 0 := ⟨.invokevirtual 56, by decide +kernel, by decide +kernel, by decide +kernel, by decide⟩
theorem D52_9 : decode (mB 52) 9 = .ok (.istore 4, 2) := by decide +kernel
theorem D52_11 : decode (mB 52) 11 = .ok (.aload_n 0, 1) := by decide +kernel
theorem D52_12 : decode (mB 52) 12 = .ok (.bipush (-10), 2) := by decide +kernel
theorem D52_14 : CS 52 14 50 0 := ⟨.invokevirtual 42, by decide +kernel, by decide +kernel, by decide +kernel, by decide⟩
theorem D52_17 : decode (mB 52) 17 = .ok (.iload 4, 2) := by decide +kernel
theorem D52_19 : decode (mB 52) 19 = .ok (.ireturn, 1) := by decide +kernel
theorem Fo_readNot_e (d : Nat) (a0 : Nat) (a1 : Nat) (a2 : Nat) (x3 : Int32) (m : eM) (h_a0 : kd a0 = 2) (h_a1 : kd a1 = 8) (h_a2 : kd a2 = 4) : Fo_readNot (d + 1) a0 a1 a2 x3 m = bI (Fo_readPart d a0 a1 a2 (x3 + (1 : Int32)) m) fun v2 m1 => bV (Fo_write d a0 (-10 : Int32) m1) fun m3 => yB v2 m3 := by
  unfold Fo_readNot
  refine (x_aload1 D52_0 rfl).trans ?_
  refine (x_aload1 D52_1 rfl).trans ?_
  refine (x_aload1 D52_2 rfl).trans ?_
  refine (x_iload1 D52_3 rfl).trans ?_
  refine (x_iconst D52_4 (k := 1) (by decide)).trans ?_
  refine (x_iadd D52_5).trans ?_
  refine (x_cI D52_6 M49 (fun z => by cases z) (I49 _ _ _ _) rfl rfl (ok_i M49 (I49 _ _ _ _) rfl rfl h_a0)).trans (bI_c fun v2 m1 => ?_)
  refine (x_istore2 D52_9 (ls' := [.ref a0, .ref a1, .ref a2, .int x3, .int v2]) rfl rfl).trans ?_
  refine (x_aload1 D52_11 rfl).trans ?_
  refine (x_bipush D52_12 (k := -10) (by decide)).trans ?_
  refine (x_cV D52_14 M50  (I50 _ _) rfl rfl (ok_i M50 (I50 _ _) rfl rfl h_a0)).trans (bV_c fun m3 => ?_)
  refine (x_iload2 D52_17 rfl).trans ?_
  exact x_bret D52_19 M52.2.2.1
theorem D53_0 : decode (mB 53) 0 = .ok (.lconst 0, 1) := by decide +kernel
theorem D53_1 : decode (mB 53) 1 = .ok (.lstore_n 2, 1) := by decide +kernel
theorem D53_2 : decode (mB 53) 2 = .ok (.iconst 0, 1) := by decide +kernel
theorem D53_3 : decode (mB 53) 3 = .ok (.istore 4, 2) := by decide +kernel
theorem D53_5 : decode (mB 53) 5 = .ok (.iload 4, 2) := by decide +kernel
theorem D53_7 : decode (mB 53) 7 = .ok (.iconst 1, 1) := by decide +kernel
theorem D53_8 : decode (mB 53) 8 = .ok (.iload_n 1, 1) := by decide +kernel
theorem D53_9 : decode (mB 53) 9 = .ok (.ishl, 1) := by decide +kernel
theorem D53_10 : BR 53 10 (.if_icmp .ge 25) (25) 35 := ⟨by decide +kernel, by decide, by decide⟩
theorem D53_35 : decode (mB 53) 35 = .ok (.lload_n 2, 1) := by decide +kernel
theorem D53_36 : decode (mB 53) 36 = .ok (.lreturn, 1) := by decide +kernel
theorem D53_13 : decode (mB 53) 13 = .ok (.aload_n 0, 1) := by decide +kernel
theorem D53_14 : decode (mB 53) 14 = .ok (.iload 4, 2) := by decide +kernel
theorem D53_16 : CS 53 16 54 0 := ⟨.invokevirtual 92, by decide +kernel, by decide +kernel, by decide +kernel, by decide⟩
theorem D53_19 : BR 53 19 (.ifCond .eq 10) (10) 29 := ⟨by decide +kernel, by decide, by decide⟩
theorem D53_29 : decode (mB 53) 29 = .ok (.iinc 4 1, 3) := by decide +kernel
theorem D53_32 : BR 53 32 (.goto (-27)) (-27) 5 := ⟨by decide +kernel, by decide, by decide⟩
theorem D53_22 : decode (mB 53) 22 = .ok (.lload_n 2, 1) := by decide +kernel
theorem D53_23 : decode (mB 53) 23 = .ok (.lconst 1, 1) := by decide +kernel
theorem D53_24 : decode (mB 53) 24 = .ok (.iload 4, 2) := by decide +kernel
theorem D53_26 : decode (mB 53) 26 = .ok (.lshl, 1) := by decide +kernel
theorem D53_27 : decode (mB 53) 27 = .ok (.lor, 1) := by decide +kernel
theorem D53_28 : decode (mB 53) 28 = .ok (.lstore_n 2, 1) := by decide +kernel
theorem Fo_worldsSo_e (d : Nat) (a0 : Nat) (x1 : Int32) (m : eM) (h_a0 : kd a0 = 2) : Fo_worldsSo (d + 1) a0 x1 m = Fo_worldsSo_5 (d + 1) a0 x1 (0 : Int64) (0 : Int32) m := by
  unfold Fo_worldsSo
  refine (x_lconst0 D53_0).trans ?_
  refine (x_lstore1 D53_1 (ls' := [.ref a0, .int x1, .long (0 : Int64), eU, eU]) rfl rfl).trans ?_
  refine (x_iconst D53_2 (k := 0) (by decide)).trans ?_
  refine (x_istore2 D53_3 (ls' := [.ref a0, .int x1, .long (0 : Int64), eU, .int (0 : Int32)]) rfl rfl).trans ?_
  rfl
theorem Fo_worldsSo_5_e (d : Nat) (a0 : Nat) (x1 : Int32) (y2 : Int64) (x4 : Int32) (m : eM) (h_a0 : kd a0 = 2) : Fo_worldsSo_5 (d + 1) a0 x1 y2 x4 m = if ((1 : Int32) <<< (x1 &&& 31)) ≤ x4 then (yL y2 m) else (bI (Fo_value d a0 x4 m) fun v2 m1 => if v2 = 0 then (Fo_worldsSo_5 (d + 1) a0 x1 y2 (x4 + (1 : Int32)) m1) else (lL (y2 ||| ((1 : Int64) <<< (x4.toInt64 &&& 63))) fun v3 => Fo_worldsSo_5 (d + 1) a0 x1 v3 (x4 + (1 : Int32)) m1)) := by
  unfold Fo_worldsSo_5
  refine (x_iload2 D53_5 rfl).trans ?_
  refine (x_iconst D53_7 (k := 1) (by decide)).trans ?_
  refine (x_iload1 D53_8 rfl).trans ?_
  refine (x_ishl D53_9).trans ?_
  refine (x_cge D53_10).trans (i_c ?_ ?_)
  · refine (x_lload1 D53_35 rfl).trans ?_
    exact x_lret D53_36 M53.2.2.1
  · refine (x_aload1 D53_13 rfl).trans ?_
    refine (x_iload2 D53_14 rfl).trans ?_
    refine (x_cI D53_16 M54 (fun z => by cases z) (I54 _ _) rfl rfl (ok_i M54 (I54 _ _) rfl rfl h_a0)).trans (bI_c fun v2 m1 => ?_)
    refine (x_ifeq D53_19).trans (i_c ?_ ?_)
    · refine (x_iinc D53_29 rfl (k := 1) (by decide) (ls' := [.ref a0, .int x1, .long y2, eU, .int (x4 + (1 : Int32))]) rfl).trans ?_
      refine (x_goto D53_32).trans ?_
      rfl
    · refine (x_lload1 D53_22 rfl).trans ?_
      refine (x_lconst1 D53_23).trans ?_
      refine (x_iload2 D53_24 rfl).trans ?_
      refine (x_lshl D53_26).trans ?_
      refine (x_lor D53_27).trans ?_
      refine (x_lstore1 D53_28 (ls' := [.ref a0, .int x1, .long (y2 ||| ((1 : Int64) <<< (x4.toInt64 &&& 63))), eU, .int x4]) rfl rfl).trans ?_
      refine lL_i (fun v3 => X (d + 1) 53 29 [.ref a0, .int x1, .long v3, eU, .int x4] [] m1) _ ?_ _
      intro v3
      refine (x_iinc D53_29 rfl (k := 1) (by decide) (ls' := [.ref a0, .int x1, .long v3, eU, .int (x4 + (1 : Int32))]) rfl).trans ?_
      refine (x_goto D53_32).trans ?_
      rfl
theorem D54_0 : decode (mB 54) 0 = .ok (.aload_n 0, 1) := by decide +kernel
theorem D54_1 : decode (mB 54) 1 = .ok (.iconst 0, 1) := by decide +kernel
theorem D54_2 : PF 54 2 2 3 0 := ⟨96, false, by decide +kernel, by decide +kernel, by decide +kernel, by decide⟩
theorem D54_5 : decode (mB 54) 5 = .ok (.iconst 0, 1) := by decide +kernel
theorem D54_6 : decode (mB 54) 6 = .ok (.istore_n 2, 1) := by decide +kernel
theorem D54_7 : decode (mB 54) 7 = .ok (.iload_n 2, 1) := by decide +kernel
theorem D54_8 : decode (mB 54) 8 = .ok (.aload_n 0, 1) := by decide +kernel
theorem D54_9 : GF 54 9 2 2 0 := ⟨20, false, by decide +kernel, by decide +kernel⟩
theorem D54_12 : BR 54 12 (.if_icmp .ge 102) (102) 114 := ⟨by decide +kernel, by decide, by decide⟩
theorem D54_114 : decode (mB 54) 114 = .ok (.aload_n 0, 1) := by decide +kernel
theorem D54_115 : CS 54 115 56 0 := ⟨.invokevirtual 102, by decide +kernel, by decide +kernel, by decide +kernel, by decide⟩
theorem D54_118 : decode (mB 54) 118 = .ok (.ireturn, 1) := by decide +kernel
theorem D54_15 : decode (mB 54) 15 = .ok (.iload_n 2, 1) := by decide +kernel
theorem D54_16 : decode (mB 54) 16 = .ok (.aload_n 0, 1) := by decide +kernel
theorem D54_17 : GF 54 17 2 0 2 := ⟨13, true, by decide +kernel, by decide +kernel⟩
theorem D54_20 : decode (mB 54) 20 = .ok (.arraylength, 1) := by decide +kernel
theorem D54_21 : BR 54 21 (.if_icmp .ge 93) (93) 114 := ⟨by decide +kernel, by decide, by decide⟩
theorem D54_24 : decode (mB 54) 24 = .ok (.aload_n 0, 1) := by decide +kernel
theorem D54_25 : GF 54 25 2 0 2 := ⟨13, true, by decide +kernel, by decide +kernel⟩
theorem D54_28 : decode (mB 54) 28 = .ok (.iload_n 2, 1) := by decide +kernel
theorem D54_29 : decode (mB 54) 29 = .ok (.iaload, 1) := by decide +kernel
theorem D54_30 : decode (mB 54) 30 = .ok (.istore_n 3, 1) := by decide +kernel
theorem D54_31 : decode (mB 54) 31 = .ok (.iload_n 3, 1) := by decide +kernel
theorem D54_32 : BR 54 32 (.ifCond .lt 11) (11) 43 := ⟨by decide +kernel, by decide, by decide⟩
theorem D54_43 : decode (mB 54) 43 = .ok (.iload_n 3, 1) := by decide +kernel
theorem D54_44 : decode (mB 54) 44 = .ok (.bipush (-6), 2) := by decide +kernel
theorem D54_46 : BR 54 46 (.if_icmp .lt 17) (17) 63 := ⟨by decide +kernel, by decide, by decide⟩
theorem D54_63 : decode (mB 54) 63 = .ok (.iload_n 3, 1) := by decide +kernel
theorem D54_64 : decode (mB 54) 64 = .ok (.bipush (-10), 2) := by decide +kernel
theorem D54_66 : BR 54 66 (.if_icmp .ne 22) (22) 88 := ⟨by decide +kernel, by decide, by decide⟩
theorem D54_88 : decode (mB 54) 88 = .ok (.aload_n 0, 1) := by decide +kernel
theorem D54_89 : CS 54 89 56 0 := ⟨.invokevirtual 102, by decide +kernel, by decide +kernel, by decide +kernel, by decide⟩
theorem D54_92 : decode (mB 54) 92 = .ok (.istore 4, 2) := by decide +kernel
theorem D54_94 : decode (mB 54) 94 = .ok (.aload_n 0, 1) := by decide +kernel
theorem D54_95 : decode (mB 54) 95 = .ok (.iload_n 3, 1) := by decide +kernel
theorem D54_96 : decode (mB 54) 96 = .ok (.aload_n 0, 1) := by decide +kernel
theorem D54_97 : CS 54 97 56 0 := ⟨.invokevirtual 102, by decide +kernel, by decide +kernel, by decide +kernel, by decide⟩
theorem D54_100 : decode (mB 54) 100 = .ok (.iload 4, 2) := by decide +kernel
theorem D54_102 : CS 54 102 57 2 := ⟨.invokestatic 105, by decide +kernel, by decide +kernel, by decide +kernel, by decide⟩
theorem D54_105 : CS 54 105 55 0 := ⟨.invokevirtual 99, by decide +kernel, by decide +kernel, by decide +kernel, by decide⟩
theorem D54_108 : decode (mB 54) 108 = .ok (.iinc 2 1, 3) := by decide +kernel
theorem D54_111 : BR 54 111 (.goto (-104)) (-104) 7 := ⟨by decide +kernel, by decide, by decide⟩
theorem D54_69 : decode (mB 54) 69 = .ok (.aload_n 0, 1) := by decide +kernel
theorem D54_70 : decode (mB 54) 70 = .ok (.aload_n 0, 1) := by decide +kernel
theorem D54_71 : CS 54 71 56 0 := ⟨.invokevirtual 102, by decide +kernel, by decide +kernel, by decide +kernel, by decide⟩
theorem D54_74 : BR 54 74 (.ifCond .ne 7) (7) 81 := ⟨by decide +kernel, by decide, by decide⟩
theorem D54_81 : decode (mB 54) 81 = .ok (.iconst 0, 1) := by decide +kernel
theorem D54_82 : CS 54 82 55 0 := ⟨.invokevirtual 99, by decide +kernel, by decide +kernel, by decide +kernel, by decide⟩
theorem D54_85 : BR 54 85 (.goto 23) (23) 108 := ⟨by decide +kernel, by decide, by decide⟩
theorem D54_77 : decode (mB 54) 77 = .ok (.iconst 1, 1) := by decide +kernel
theorem D54_78 : BR 54 78 (.goto 4) (4) 82 := ⟨by decide +kernel, by decide, by decide⟩
theorem D54_49 : decode (mB 54) 49 = .ok (.aload_n 0, 1) := by decide +kernel
theorem D54_50 : decode (mB 54) 50 = .ok (.iload_n 1, 1) := by decide +kernel
theorem D54_51 : decode (mB 54) 51 = .ok (.iconst (-1), 1) := by decide +kernel
theorem D54_52 : decode (mB 54) 52 = .ok (.iload_n 3, 1) := by decide +kernel
theorem D54_53 : decode (mB 54) 53 = .ok (.isub, 1) := by decide +kernel
theorem D54_54 : decode (mB 54) 54 = .ok (.ishr, 1) := by decide +kernel
theorem D54_55 : decode (mB 54) 55 = .ok (.iconst 1, 1) := by decide +kernel
theorem D54_56 : decode (mB 54) 56 = .ok (.iand, 1) := by decide +kernel
theorem D54_57 : CS 54 57 55 0 := ⟨.invokevirtual 99, by decide +kernel, by decide +kernel, by decide +kernel, by decide⟩
theorem D54_60 : BR 54 60 (.goto 48) (48) 108 := ⟨by decide +kernel, by decide, by decide⟩
theorem D54_35 : decode (mB 54) 35 = .ok (.aload_n 0, 1) := by decide +kernel
theorem D54_36 : decode (mB 54) 36 = .ok (.iload_n 3, 1) := by decide +kernel
theorem D54_37 : CS 54 37 55 0 := ⟨.invokevirtual 99, by decide +kernel, by decide +kernel, by decide +kernel, by decide⟩
theorem D54_40 : BR 54 40 (.goto 68) (68) 108 := ⟨by decide +kernel, by decide, by decide⟩
theorem Fo_value_e (d : Nat) (a0 : Nat) (x1 : Int32) (m : eM) (h_a0 : kd a0 = 2) : Fo_value (d + 1) a0 x1 m = mI m a0 3 (0 : Int32) fun m1 => Fo_value_7 (d + 1) a0 x1 (0 : Int32) eU eU m1 := by
  unfold Fo_value
  refine (x_aload1 D54_0 rfl).trans ?_
  refine (x_iconst D54_1 (k := 0) (by decide)).trans ?_
  refine (x_putI D54_2 h_a0).trans ?_
  refine mI_i (fun m1 => X (d + 1) 54 5 [.ref a0, .int x1, eU, eU, eU] [] m1) _ ?_
  intro m1
  refine (x_iconst D54_5 (k := 0) (by decide)).trans ?_
  refine (x_istore1 D54_6 (ls' := [.ref a0, .int x1, .int (0 : Int32), eU, eU]) rfl rfl).trans ?_
  rfl
theorem Fo_value_7_e (d : Nat) (a0 : Nat) (x1 : Int32) (x2 : Int32) (w3 : Value) (w4 : Value) (m : eM) (h_a0 : kd a0 = 2) : Fo_value_7 (d + 1) a0 x1 x2 w3 w4 m = if (gI m a0 2) ≤ x2 then (bI (Fo_pop d a0 m) fun v2 m1 => yI v2 m1) else (bR (gR m a0 0) fun r3 => gl r3 (if ((aln m r3).toInt32) ≤ x2 then (bI (Fo_pop d a0 m) fun v5 m4 => yI v5 m4) else (bR (gR m a0 0) fun r6 => ga m r6 20 x2 (if (gI m r6 x2.toNatClampNeg) < 0 then (if (gI m r6 x2.toNatClampNeg) < (-6 : Int32) then (if ¬ (gI m r6 x2.toNatClampNeg) = (-10 : Int32) then (bI (Fo_pop d a0 m) fun v8 m7 => bI (Fo_pop d a0 m7) fun v10 m9 => bI (Fo_joined d (gI m r6 x2.toNatClampNeg) v10 v8 m9) fun v12 m11 => bV (Fo_push d a0 v12 m11) fun m13 => Fo_value_7 (d + 1) a0 x1 (x2 + (1 : Int32)) (.int (gI m r6 x2.toNatClampNeg)) (.int v8) m13) else (bI (Fo_pop d a0 m) fun v15 m14 => if ¬ v15 = 0 then (bV (Fo_push d a0 (0 : Int32) m14) fun m16 => Fo_value_7 (d + 1) a0 x1 (x2 + (1 : Int32)) (.int (gI m r6 x2.toNatClampNeg)) w4 m16) else (bV (Fo_push d a0 (1 : Int32) m14) fun m17 => Fo_value_7 (d + 1) a0 x1 (x2 + (1 : Int32)) (.int (gI m r6 x2.toNatClampNeg)) w4 m17))) else (bV (Fo_push d a0 ((x1 >>> (((-1 : Int32) - (gI m r6 x2.toNatClampNeg)) &&& 31)) &&& (1 : Int32)) m) fun m18 => Fo_value_7 (d + 1) a0 x1 (x2 + (1 : Int32)) (.int (gI m r6 x2.toNatClampNeg)) w4 m18)) else (bV (Fo_push d a0 (gI m r6 x2.toNatClampNeg) m) fun m19 => Fo_value_7 (d + 1) a0 x1 (x2 + (1 : Int32)) (.int (gI m r6 x2.toNatClampNeg)) w4 m19))))) := by
  unfold Fo_value_7
  refine (x_iload1 D54_7 rfl).trans ?_
  refine (x_aload1 D54_8 rfl).trans ?_
  refine ((x_getI D54_9).trans (gd_t h_a0)).trans ?_
  refine (x_cge D54_12).trans (i_c ?_ ?_)
  · refine (x_aload1 D54_114 rfl).trans ?_
    refine (x_cI D54_115 M56 (fun z => by cases z) (I56 _) rfl rfl (ok_i M56 (I56 _) rfl rfl h_a0)).trans (bI_c fun v2 m1 => ?_)
    exact x_iret D54_118 M54.2.2.1
  · refine (x_iload1 D54_15 rfl).trans ?_
    refine (x_aload1 D54_16 rfl).trans ?_
    refine ((x_getR D54_17).trans (gd_t h_a0)).trans (bR_c fun r3 => ?_)
    refine (x_alen D54_20).trans (gl_c ?_)
    refine (x_cge D54_21).trans (i_c ?_ ?_)
    · refine (x_aload1 D54_114 rfl).trans ?_
      refine (x_cI D54_115 M56 (fun z => by cases z) (I56 _) rfl rfl (ok_i M56 (I56 _) rfl rfl h_a0)).trans (bI_c fun v5 m4 => ?_)
      exact x_iret D54_118 M54.2.2.1
    · refine (x_aload1 D54_24 rfl).trans ?_
      refine ((x_getR D54_25).trans (gd_t h_a0)).trans (bR_c fun r6 => ?_)
      refine (x_iload1 D54_28 rfl).trans ?_
      refine (x_iaload D54_29).trans (ga_c ?_)
      refine (x_istore1 D54_30 (ls' := [.ref a0, .int x1, .int x2, .int (gI m r6 x2.toNatClampNeg), w4]) rfl rfl).trans ?_
      refine (x_iload1 D54_31 rfl).trans ?_
      refine (x_iflt D54_32).trans (i_c ?_ ?_)
      · refine (x_iload1 D54_43 rfl).trans ?_
        refine (x_bipush D54_44 (k := -6) (by decide)).trans ?_
        refine (x_clt D54_46).trans (i_c ?_ ?_)
        · refine (x_iload1 D54_63 rfl).trans ?_
          refine (x_bipush D54_64 (k := -10) (by decide)).trans ?_
          refine (x_cne D54_66).trans (i_c ?_ ?_)
          · refine (x_aload1 D54_88 rfl).trans ?_
            refine (x_cI D54_89 M56 (fun z => by cases z) (I56 _) rfl rfl (ok_i M56 (I56 _) rfl rfl h_a0)).trans (bI_c fun v8 m7 => ?_)
            refine (x_istore2 D54_92 (ls' := [.ref a0, .int x1, .int x2, .int (gI m r6 x2.toNatClampNeg), .int v8]) rfl rfl).trans ?_
            refine (x_aload1 D54_94 rfl).trans ?_
            refine (x_iload1 D54_95 rfl).trans ?_
            refine (x_aload1 D54_96 rfl).trans ?_
            refine (x_cI D54_97 M56 (fun z => by cases z) (I56 _) rfl rfl (ok_i M56 (I56 _) rfl rfl h_a0)).trans (bI_c fun v10 m9 => ?_)
            refine (x_iload2 D54_100 rfl).trans ?_
            refine (x_cI D54_102 M57 (fun z => by cases z) (I57 _ _ _) rfl rfl (ok_s M57 (I57 _ _ _) rfl rfl)).trans (bI_c fun v12 m11 => ?_)
            refine (x_cV D54_105 M55  (I55 _ _) rfl rfl (ok_i M55 (I55 _ _) rfl rfl h_a0)).trans (bV_c fun m13 => ?_)
            refine (x_iinc D54_108 rfl (k := 1) (by decide) (ls' := [.ref a0, .int x1, .int (x2 + (1 : Int32)), .int (gI m r6 x2.toNatClampNeg), .int v8]) rfl).trans ?_
            refine (x_goto D54_111).trans ?_
            rfl
          · refine (x_aload1 D54_69 rfl).trans ?_
            refine (x_aload1 D54_70 rfl).trans ?_
            refine (x_cI D54_71 M56 (fun z => by cases z) (I56 _) rfl rfl (ok_i M56 (I56 _) rfl rfl h_a0)).trans (bI_c fun v15 m14 => ?_)
            refine (x_ifne D54_74).trans (i_c ?_ ?_)
            · refine (x_iconst D54_81 (k := 0) (by decide)).trans ?_
              refine (x_cV D54_82 M55  (I55 _ _) rfl rfl (ok_i M55 (I55 _ _) rfl rfl h_a0)).trans (bV_c fun m16 => ?_)
              refine (x_goto D54_85).trans ?_
              refine (x_iinc D54_108 rfl (k := 1) (by decide) (ls' := [.ref a0, .int x1, .int (x2 + (1 : Int32)), .int (gI m r6 x2.toNatClampNeg), w4]) rfl).trans ?_
              refine (x_goto D54_111).trans ?_
              rfl
            · refine (x_iconst D54_77 (k := 1) (by decide)).trans ?_
              refine (x_goto D54_78).trans ?_
              refine (x_cV D54_82 M55  (I55 _ _) rfl rfl (ok_i M55 (I55 _ _) rfl rfl h_a0)).trans (bV_c fun m17 => ?_)
              refine (x_goto D54_85).trans ?_
              refine (x_iinc D54_108 rfl (k := 1) (by decide) (ls' := [.ref a0, .int x1, .int (x2 + (1 : Int32)), .int (gI m r6 x2.toNatClampNeg), w4]) rfl).trans ?_
              refine (x_goto D54_111).trans ?_
              rfl
        · refine (x_aload1 D54_49 rfl).trans ?_
          refine (x_iload1 D54_50 rfl).trans ?_
          refine (x_iconst D54_51 (k := -1) (by decide)).trans ?_
          refine (x_iload1 D54_52 rfl).trans ?_
          refine (x_isub D54_53).trans ?_
          refine (x_ishr D54_54).trans ?_
          refine (x_iconst D54_55 (k := 1) (by decide)).trans ?_
          refine (x_iand D54_56).trans ?_
          refine (x_cV D54_57 M55  (I55 _ _) rfl rfl (ok_i M55 (I55 _ _) rfl rfl h_a0)).trans (bV_c fun m18 => ?_)
          refine (x_goto D54_60).trans ?_
          refine (x_iinc D54_108 rfl (k := 1) (by decide) (ls' := [.ref a0, .int x1, .int (x2 + (1 : Int32)), .int (gI m r6 x2.toNatClampNeg), w4]) rfl).trans ?_
          refine (x_goto D54_111).trans ?_
          rfl
      · refine (x_aload1 D54_35 rfl).trans ?_
        refine (x_iload1 D54_36 rfl).trans ?_
        refine (x_cV D54_37 M55  (I55 _ _) rfl rfl (ok_i M55 (I55 _ _) rfl rfl h_a0)).trans (bV_c fun m19 => ?_)
        refine (x_goto D54_40).trans ?_
        refine (x_iinc D54_108 rfl (k := 1) (by decide) (ls' := [.ref a0, .int x1, .int (x2 + (1 : Int32)), .int (gI m r6 x2.toNatClampNeg), w4]) rfl).trans ?_
        refine (x_goto D54_111).trans ?_
        rfl
theorem D55_0 : decode (mB 55) 0 = .ok (.aload_n 0, 1) := by decide +kernel
theorem D55_1 : GF 55 1 2 3 0 := ⟨96, false, by decide +kernel, by decide +kernel⟩
theorem D55_4 : BR 55 4 (.ifCond .lt 35) (35) 39 := ⟨by decide +kernel, by decide, by decide⟩
theorem D55_39 : decode (mB 55) 39 = .ok (.return_, 1) := by decide +kernel
theorem D55_7 : decode (mB 55) 7 = .ok (.aload_n 0, 1) := by decide +kernel
theorem D55_8 : GF 55 8 2 3 0 := ⟨96, false, by decide +kernel, by decide +kernel⟩
theorem D55_11 : decode (mB 55) 11 = .ok (.aload_n 0, 1) := by decide +kernel
theorem D55_12 : GF 55 12 2 1 2 := ⟨17, true, by decide +kernel, by decide +kernel⟩
theorem D55_15 : decode (mB 55) 15 = .ok (.arraylength, 1) := by decide +kernel
theorem D55_16 : BR 55 16 (.if_icmp .ge 23) (23) 39 := ⟨by decide +kernel, by decide, by decide⟩
theorem D55_19 : decode (mB 55) 19 = .ok (.aload_n 0, 1) := by decide +kernel
theorem D55_20 : GF 55 20 2 1 2 := ⟨17, true, by decide +kernel, by decide +kernel⟩
theorem D55_23 : decode (mB 55) 23 = .ok (.aload_n 0, 1) := by decide +kernel
theorem D55_24 : GF 55 24 2 3 0 := ⟨96, false, by decide +kernel, by decide +kernel⟩
theorem D55_27 : decode (mB 55) 27 = .ok (.iload_n 1, 1) := by decide +kernel
theorem D55_28 : decode (mB 55) 28 = .ok (.iastore, 1) := by decide +kernel
theorem D55_29 : decode (mB 55) 29 = .ok (.aload_n 0, 1) := by decide +kernel
theorem D55_30 : decode (mB 55) 30 = .ok (.dup, 1) := by decide +kernel
theorem D55_31 : GF 55 31 2 3 0 := ⟨96, false, by decide +kernel, by decide +kernel⟩
theorem D55_34 : decode (mB 55) 34 = .ok (.iconst 1, 1) := by decide +kernel
theorem D55_35 : decode (mB 55) 35 = .ok (.iadd, 1) := by decide +kernel
theorem D55_36 : PF 55 36 2 3 0 := ⟨96, false, by decide +kernel, by decide +kernel, by decide +kernel, by decide⟩
theorem Fo_push_e (d : Nat) (a0 : Nat) (x1 : Int32) (m : eM) (h_a0 : kd a0 = 2) : Fo_push d a0 x1 m = if (gI m a0 3) < 0 then (yV m) else (bR (gR m a0 1) fun r1 => gl r1 (if ((aln m r1).toInt32) ≤ (gI m a0 3) then (yV m) else (bR (gR m a0 1) fun r2 => gw m r2 20 (gI m a0 3) (mI m r2 (gI m a0 3).toNatClampNeg x1 fun m3 => mI m3 a0 3 ((gI m3 a0 3) + (1 : Int32)) fun m4 => yV m4)))) := by
  unfold Fo_push
  refine (x_aload1 D55_0 rfl).trans ?_
  refine ((x_getI D55_1).trans (gd_t h_a0)).trans ?_
  refine (x_iflt D55_4).trans (i_c ?_ ?_)
  · exact x_vret D55_39 M55.2.2.1
  · refine (x_aload1 D55_7 rfl).trans ?_
    refine ((x_getI D55_8).trans (gd_t h_a0)).trans ?_
    refine (x_aload1 D55_11 rfl).trans ?_
    refine ((x_getR D55_12).trans (gd_t h_a0)).trans (bR_c fun r1 => ?_)
    refine (x_alen D55_15).trans (gl_c ?_)
    refine (x_cge D55_16).trans (i_c ?_ ?_)
    · exact x_vret D55_39 M55.2.2.1
    · refine (x_aload1 D55_19 rfl).trans ?_
      refine ((x_getR D55_20).trans (gd_t h_a0)).trans (bR_c fun r2 => ?_)
      refine (x_aload1 D55_23 rfl).trans ?_
      refine ((x_getI D55_24).trans (gd_t h_a0)).trans ?_
      refine (x_iload1 D55_27 rfl).trans ?_
      refine (x_iastore D55_28).trans (gw_c ?_)
      refine mI_i (fun m3 => X d 55 29 [.ref a0, .int x1] [] m3) _ ?_
      intro m3
      refine (x_aload1 D55_29 rfl).trans ?_
      refine (x_dup1 D55_30 rfl).trans ?_
      refine ((x_getI D55_31).trans (gd_t h_a0)).trans ?_
      refine (x_iconst D55_34 (k := 1) (by decide)).trans ?_
      refine (x_iadd D55_35).trans ?_
      refine (x_putI D55_36 h_a0).trans ?_
      refine mI_i (fun m4 => X d 55 39 [.ref a0, .int x1] [] m4) _ ?_
      intro m4
      exact x_vret D55_39 M55.2.2.1
theorem D56_0 : decode (mB 56) 0 = .ok (.aload_n 0, 1) := by decide +kernel
theorem D56_1 : GF 56 1 2 3 0 := ⟨96, false, by decide +kernel, by decide +kernel⟩
theorem D56_4 : BR 56 4 (.ifCond .le 15) (15) 19 := ⟨by decide +kernel, by decide, by decide⟩
theorem D56_19 : decode (mB 56) 19 = .ok (.iconst 0, 1) := by decide +kernel
theorem D56_20 : decode (mB 56) 20 = .ok (.ireturn, 1) := by decide +kernel
theorem D56_7 : decode (mB 56) 7 = .ok (.aload_n 0, 1) := by decide +kernel
theorem D56_8 : GF 56 8 2 3 0 := ⟨96, false, by decide +kernel, by decide +kernel⟩
theorem D56_11 : decode (mB 56) 11 = .ok (.aload_n 0, 1) := by decide +kernel
theorem D56_12 : GF 56 12 2 1 2 := ⟨17, true, by decide +kernel, by decide +kernel⟩
theorem D56_15 : decode (mB 56) 15 = .ok (.arraylength, 1) := by decide +kernel
theorem D56_16 : BR 56 16 (.if_icmp .le 5) (5) 21 := ⟨by decide +kernel, by decide, by decide⟩
theorem D56_21 : decode (mB 56) 21 = .ok (.aload_n 0, 1) := by decide +kernel
theorem D56_22 : decode (mB 56) 22 = .ok (.dup, 1) := by decide +kernel
theorem D56_23 : GF 56 23 2 3 0 := ⟨96, false, by decide +kernel, by decide +kernel⟩
theorem D56_26 : decode (mB 56) 26 = .ok (.iconst 1, 1) := by decide +kernel
theorem D56_27 : decode (mB 56) 27 = .ok (.isub, 1) := by decide +kernel
theorem D56_28 : PF 56 28 2 3 0 := ⟨96, false, by decide +kernel, by decide +kernel, by decide +kernel, by decide⟩
theorem D56_31 : decode (mB 56) 31 = .ok (.aload_n 0, 1) := by decide +kernel
theorem D56_32 : GF 56 32 2 1 2 := ⟨17, true, by decide +kernel, by decide +kernel⟩
theorem D56_35 : decode (mB 56) 35 = .ok (.aload_n 0, 1) := by decide +kernel
theorem D56_36 : GF 56 36 2 3 0 := ⟨96, false, by decide +kernel, by decide +kernel⟩
theorem D56_39 : decode (mB 56) 39 = .ok (.iaload, 1) := by decide +kernel
theorem D56_40 : decode (mB 56) 40 = .ok (.ireturn, 1) := by decide +kernel
theorem Fo_pop_e (d : Nat) (a0 : Nat) (m : eM) (h_a0 : kd a0 = 2) : Fo_pop d a0 m = if (gI m a0 3) ≤ 0 then (yI (0 : Int32) m) else (bR (gR m a0 1) fun r1 => gl r1 (if (gI m a0 3) ≤ ((aln m r1).toInt32) then (mI m a0 3 ((gI m a0 3) - (1 : Int32)) fun m2 => bR (gR m2 a0 1) fun r3 => ga m2 r3 20 (gI m2 a0 3) (yI (gI m2 r3 (gI m2 a0 3).toNatClampNeg) m2)) else (yI (0 : Int32) m))) := by
  unfold Fo_pop
  refine (x_aload1 D56_0 rfl).trans ?_
  refine ((x_getI D56_1).trans (gd_t h_a0)).trans ?_
  refine (x_ifle D56_4).trans (i_c ?_ ?_)
  · refine (x_iconst D56_19 (k := 0) (by decide)).trans ?_
    exact x_iret D56_20 M56.2.2.1
  · refine (x_aload1 D56_7 rfl).trans ?_
    refine ((x_getI D56_8).trans (gd_t h_a0)).trans ?_
    refine (x_aload1 D56_11 rfl).trans ?_
    refine ((x_getR D56_12).trans (gd_t h_a0)).trans (bR_c fun r1 => ?_)
    refine (x_alen D56_15).trans (gl_c ?_)
    refine (x_cle D56_16).trans (i_c ?_ ?_)
    · refine (x_aload1 D56_21 rfl).trans ?_
      refine (x_dup1 D56_22 rfl).trans ?_
      refine ((x_getI D56_23).trans (gd_t h_a0)).trans ?_
      refine (x_iconst D56_26 (k := 1) (by decide)).trans ?_
      refine (x_isub D56_27).trans ?_
      refine (x_putI D56_28 h_a0).trans ?_
      refine mI_i (fun m2 => X d 56 31 [.ref a0] [] m2) _ ?_
      intro m2
      refine (x_aload1 D56_31 rfl).trans ?_
      refine ((x_getR D56_32).trans (gd_t h_a0)).trans (bR_c fun r3 => ?_)
      refine (x_aload1 D56_35 rfl).trans ?_
      refine ((x_getI D56_36).trans (gd_t h_a0)).trans ?_
      refine (x_iaload D56_39).trans (ga_c ?_)
      exact x_iret D56_40 M56.2.2.1
    · refine (x_iconst D56_19 (k := 0) (by decide)).trans ?_
      exact x_iret D56_20 M56.2.2.1
theorem D57_0 : decode (mB 57) 0 = .ok (.iload_n 0, 1) := by decide +kernel
theorem D57_1 : TB 57 1 98 (-16) (-11) [94, 90, 79, 68, 54, 40] := ⟨#[93, 89, 78, 67, 53, 39], 97, 39, by decide +kernel, by decide +kernel⟩
theorem D57_94 : decode (mB 57) 94 = .ok (.iload_n 1, 1) := by decide +kernel
theorem D57_95 : decode (mB 57) 95 = .ok (.iload_n 2, 1) := by decide +kernel
theorem D57_96 : decode (mB 57) 96 = .ok (.isub, 1) := by decide +kernel
theorem D57_97 : decode (mB 57) 97 = .ok (.ireturn, 1) := by decide +kernel
theorem D57_90 : decode (mB 57) 90 = .ok (.iload_n 1, 1) := by decide +kernel
theorem D57_91 : decode (mB 57) 91 = .ok (.iload_n 2, 1) := by decide +kernel
theorem D57_92 : decode (mB 57) 92 = .ok (.iadd, 1) := by decide +kernel
theorem D57_93 : decode (mB 57) 93 = .ok (.ireturn, 1) := by decide +kernel
theorem D57_79 : decode (mB 57) 79 = .ok (.iload_n 1, 1) := by decide +kernel
theorem D57_80 : decode (mB 57) 80 = .ok (.iload_n 2, 1) := by decide +kernel
theorem D57_81 : BR 57 81 (.if_icmp .ne 7) (7) 88 := ⟨by decide +kernel, by decide, by decide⟩
theorem D57_88 : decode (mB 57) 88 = .ok (.iconst 0, 1) := by decide +kernel
theorem D57_89 : decode (mB 57) 89 = .ok (.ireturn, 1) := by decide +kernel
theorem D57_84 : decode (mB 57) 84 = .ok (.iconst 1, 1) := by decide +kernel
theorem D57_85 : BR 57 85 (.goto 4) (4) 89 := ⟨by decide +kernel, by decide, by decide⟩
theorem D57_68 : decode (mB 57) 68 = .ok (.iload_n 1, 1) := by decide +kernel
theorem D57_69 : decode (mB 57) 69 = .ok (.iload_n 2, 1) := by decide +kernel
theorem D57_70 : BR 57 70 (.if_icmp .ge 7) (7) 77 := ⟨by decide +kernel, by decide, by decide⟩
theorem D57_77 : decode (mB 57) 77 = .ok (.iconst 0, 1) := by decide +kernel
theorem D57_78 : decode (mB 57) 78 = .ok (.ireturn, 1) := by decide +kernel
theorem D57_73 : decode (mB 57) 73 = .ok (.iconst 1, 1) := by decide +kernel
theorem D57_74 : BR 57 74 (.goto 4) (4) 78 := ⟨by decide +kernel, by decide, by decide⟩
theorem D57_54 : decode (mB 57) 54 = .ok (.iload_n 1, 1) := by decide +kernel
theorem D57_55 : BR 57 55 (.ifCond .ne 7) (7) 62 := ⟨by decide +kernel, by decide, by decide⟩
theorem D57_62 : decode (mB 57) 62 = .ok (.iconst 1, 1) := by decide +kernel
theorem D57_63 : BR 57 63 (.goto 4) (4) 67 := ⟨by decide +kernel, by decide, by decide⟩
theorem D57_67 : decode (mB 57) 67 = .ok (.ireturn, 1) := by decide +kernel
theorem D57_58 : decode (mB 57) 58 = .ok (.iload_n 2, 1) := by decide +kernel
theorem D57_59 : BR 57 59 (.ifCond .eq 7) (7) 66 := ⟨by decide +kernel, by decide, by decide⟩
theorem D57_66 : decode (mB 57) 66 = .ok (.iconst 0, 1) := by decide +kernel
theorem D57_40 : decode (mB 57) 40 = .ok (.iload_n 1, 1) := by decide +kernel
theorem D57_41 : BR 57 41 (.ifCond .eq 11) (11) 52 := ⟨by decide +kernel, by decide, by decide⟩
theorem D57_52 : decode (mB 57) 52 = .ok (.iconst 0, 1) := by decide +kernel
theorem D57_53 : decode (mB 57) 53 = .ok (.ireturn, 1) := by decide +kernel
theorem D57_44 : decode (mB 57) 44 = .ok (.iload_n 2, 1) := by decide +kernel
theorem D57_45 : BR 57 45 (.ifCond .eq 7) (7) 52 := ⟨by decide +kernel, by decide, by decide⟩
theorem D57_48 : decode (mB 57) 48 = .ok (.iconst 1, 1) := by decide +kernel
theorem D57_49 : BR 57 49 (.goto 4) (4) 53 := ⟨by decide +kernel, by decide, by decide⟩
theorem D57_98 : decode (mB 57) 98 = .ok (.iload_n 1, 1) := by decide +kernel
theorem D57_99 : decode (mB 57) 99 = .ok (.iload_n 2, 1) := by decide +kernel
theorem D57_100 : decode (mB 57) 100 = .ok (.imul, 1) := by decide +kernel
theorem D57_101 : decode (mB 57) 101 = .ok (.ireturn, 1) := by decide +kernel
theorem Fo_joined_e (d : Nat) (x0 : Int32) (x1 : Int32) (x2 : Int32) (m : eM)  : Fo_joined d x0 x1 x2 m = tsw (-16 : Int32) [yI (x1 - x2) m, yI (x1 + x2) m, if ¬ x1 = x2 then (yI (0 : Int32) m) else (yI (1 : Int32) m), if x2 ≤ x1 then (yI (0 : Int32) m) else (yI (1 : Int32) m), if ¬ x1 = 0 then (yI (1 : Int32) m) else (if x2 = 0 then (yI (0 : Int32) m) else (yI (1 : Int32) m)), if x1 = 0 then (yI (0 : Int32) m) else (if x2 = 0 then (yI (0 : Int32) m) else (yI (1 : Int32) m))] (yI (x1 * x2) m) x0 := by
  unfold Fo_joined
  refine (x_iload1 D57_0 rfl).trans ?_
  refine (x_tab D57_1 (k := -16) (by decide)).trans ?_
  refine tsw_c ?_ ?_
  · refine (x_iload1 D57_94 rfl).trans ?_
    refine (x_iload1 D57_95 rfl).trans ?_
    refine (x_isub D57_96).trans ?_
    exact x_iret D57_97 M57.2.2.1
  refine tsw_c ?_ ?_
  · refine (x_iload1 D57_90 rfl).trans ?_
    refine (x_iload1 D57_91 rfl).trans ?_
    refine (x_iadd D57_92).trans ?_
    exact x_iret D57_93 M57.2.2.1
  refine tsw_c ?_ ?_
  · refine (x_iload1 D57_79 rfl).trans ?_
    refine (x_iload1 D57_80 rfl).trans ?_
    refine (x_cne D57_81).trans (i_c ?_ ?_)
    · refine (x_iconst D57_88 (k := 0) (by decide)).trans ?_
      exact x_iret D57_89 M57.2.2.1
    · refine (x_iconst D57_84 (k := 1) (by decide)).trans ?_
      refine (x_goto D57_85).trans ?_
      exact x_iret D57_89 M57.2.2.1
  refine tsw_c ?_ ?_
  · refine (x_iload1 D57_68 rfl).trans ?_
    refine (x_iload1 D57_69 rfl).trans ?_
    refine (x_cge D57_70).trans (i_c ?_ ?_)
    · refine (x_iconst D57_77 (k := 0) (by decide)).trans ?_
      exact x_iret D57_78 M57.2.2.1
    · refine (x_iconst D57_73 (k := 1) (by decide)).trans ?_
      refine (x_goto D57_74).trans ?_
      exact x_iret D57_78 M57.2.2.1
  refine tsw_c ?_ ?_
  · refine (x_iload1 D57_54 rfl).trans ?_
    refine (x_ifne D57_55).trans (i_c ?_ ?_)
    · refine (x_iconst D57_62 (k := 1) (by decide)).trans ?_
      refine (x_goto D57_63).trans ?_
      exact x_iret D57_67 M57.2.2.1
    · refine (x_iload1 D57_58 rfl).trans ?_
      refine (x_ifeq D57_59).trans (i_c ?_ ?_)
      · refine (x_iconst D57_66 (k := 0) (by decide)).trans ?_
        exact x_iret D57_67 M57.2.2.1
      · refine (x_iconst D57_62 (k := 1) (by decide)).trans ?_
        refine (x_goto D57_63).trans ?_
        exact x_iret D57_67 M57.2.2.1
  refine tsw_c ?_ ?_
  · refine (x_iload1 D57_40 rfl).trans ?_
    refine (x_ifeq D57_41).trans (i_c ?_ ?_)
    · refine (x_iconst D57_52 (k := 0) (by decide)).trans ?_
      exact x_iret D57_53 M57.2.2.1
    · refine (x_iload1 D57_44 rfl).trans ?_
      refine (x_ifeq D57_45).trans (i_c ?_ ?_)
      · refine (x_iconst D57_52 (k := 0) (by decide)).trans ?_
        exact x_iret D57_53 M57.2.2.1
      · refine (x_iconst D57_48 (k := 1) (by decide)).trans ?_
        refine (x_goto D57_49).trans ?_
        exact x_iret D57_53 M57.2.2.1
  refine tsw_d ?_
  refine (x_iload1 D57_98 rfl).trans ?_
  refine (x_iload1 D57_99 rfl).trans ?_
  refine (x_imul D57_100).trans ?_
  exact x_iret D57_101 M57.2.2.1
theorem D58_0 : decode (mB 58) 0 = .ok (.aload_n 1, 1) := by decide +kernel
theorem D58_1 : decode (mB 58) 1 = .ok (.iconst 1, 1) := by decide +kernel
theorem D58_2 : CS 58 2 30 0 := ⟨.invokevirtual 119, by decide +kernel, by decide +kernel, by decide +kernel, by decide⟩
theorem D58_5 : BR 58 5 (.ifCond .ne 5) (5) 10 := ⟨by decide +kernel, by decide, by decide⟩
theorem D58_10 : decode (mB 58) 10 = .ok (.aload_n 1, 1) := by decide +kernel
theorem D58_11 : CS 58 11 31 0 := ⟨.invokevirtual 122, by decide +kernel, by decide +kernel, by decide +kernel, by decide⟩
theorem D58_14 : decode (mB 58) 14 = .ok (.istore_n 2, 1) := by decide +kernel
theorem D58_15 : decode (mB 58) 15 = .ok (.aload_n 0, 1) := by decide +kernel
theorem D58_16 : decode (mB 58) 16 = .ok (.iload_n 2, 1) := by decide +kernel
theorem D58_17 : CS 58 17 59 0 := ⟨.invokevirtual 184, by decide +kernel, by decide +kernel, by decide +kernel, by decide⟩
theorem D58_20 : BR 58 20 (.ifCond .eq 18) (18) 38 := ⟨by decide +kernel, by decide, by decide⟩
theorem D58_23 : decode (mB 58) 23 = .ok (.aload_n 0, 1) := by decide +kernel
theorem D58_24 : GF 58 24 4 12 2 := ⟨37, true, by decide +kernel, by decide +kernel⟩
theorem D58_27 : decode (mB 58) 27 = .ok (.iload_n 2, 1) := by decide +kernel
theorem D58_28 : decode (mB 58) 28 = .ok (.baload, 1) := by decide +kernel
theorem D58_29 : BR 58 29 (.ifCond .eq 9) (9) 38 := ⟨by decide +kernel, by decide, by decide⟩
theorem D58_32 : decode (mB 58) 32 = .ok (.aload_n 1, 1) := by decide +kernel
theorem D58_33 : decode (mB 58) 33 = .ok (.iconst 3, 1) := by decide +kernel
theorem D58_34 : CS 58 34 25 0 := ⟨.invokevirtual 91, by decide +kernel, by decide +kernel, by decide +kernel, by decide⟩
theorem D58_37 : decode (mB 58) 37 = .ok (.ireturn, 1) := by decide +kernel
theorem D58_8 : decode (mB 58) 8 = .ok (.iconst 0, 1) := by decide +kernel
theorem D58_9 : decode (mB 58) 9 = .ok (.ireturn, 1) := by decide +kernel
theorem D58_38 : decode (mB 58) 38 = .ok (.aload_n 1, 1) := by decide +kernel
theorem D58_39 : CS 58 39 15 0 := ⟨.invokevirtual 95, by decide +kernel, by decide +kernel, by decide +kernel, by decide⟩
theorem D58_42 : decode (mB 58) 42 = .ok (.aload_n 1, 1) := by decide +kernel
theorem R58_43 : lRes (mC 58) 187 = some (7102839) := by decide +kernel
theorem D58_43 : decode (mB 58) 43 = .ok (.ldc2_w 187, 3) := by decide +kernel
theorem D58_46 : CS 58 46 36 0 := ⟨.invokevirtual 85, by decide +kernel, by decide +kernel, by decide +kernel, by decide⟩
theorem D58_49 : BR 58 49 (.ifCond .eq 11) (11) 60 := ⟨by decide +kernel, by decide, by decide⟩
theorem D58_60 : decode (mB 58) 60 = .ok (.iconst 0, 1) := by decide +kernel
theorem D58_61 : decode (mB 58) 61 = .ok (.ireturn, 1) := by decide +kernel
theorem D58_52 : decode (mB 58) 52 = .ok (.aload_n 1, 1) := by decide +kernel
theorem D58_53 : decode (mB 58) 53 = .ok (.iconst 1, 1) := by decide +kernel
theorem D58_54 : CS 58 54 30 0 := ⟨.invokevirtual 119, by decide +kernel, by decide +kernel, by decide +kernel, by decide⟩
theorem D58_57 : BR 58 57 (.ifCond .ne 5) (5) 62 := ⟨by decide +kernel, by decide, by decide⟩
theorem D58_62 : decode (mB 58) 62 = .ok (.aload_n 1, 1) := by decide +kernel
theorem D58_63 : CS 58 63 31 0 := ⟨.invokevirtual 122, by decide +kernel, by decide +kernel, by decide +kernel, by decide⟩
theorem D58_66 : decode (mB 58) 66 = .ok (.istore_n 3, 1) := by decide +kernel
theorem D58_67 : decode (mB 58) 67 = .ok (.aload_n 1, 1) := by decide +kernel
theorem D58_68 : CS 58 68 15 0 := ⟨.invokevirtual 95, by decide +kernel, by decide +kernel, by decide +kernel, by decide⟩
theorem D58_71 : decode (mB 58) 71 = .ok (.aload_n 1, 1) := by decide +kernel
theorem R58_72 : lRes (mC 58) 189 = some (1818326117) := by decide +kernel
theorem D58_72 : decode (mB 58) 72 = .ok (.ldc2_w 189, 3) := by decide +kernel
theorem D58_75 : CS 58 75 36 0 := ⟨.invokevirtual 85, by decide +kernel, by decide +kernel, by decide +kernel, by decide⟩
theorem D58_78 : BR 58 78 (.ifCond .eq 12) (12) 90 := ⟨by decide +kernel, by decide, by decide⟩
theorem D58_90 : decode (mB 58) 90 = .ok (.iconst 0, 1) := by decide +kernel
theorem D58_91 : decode (mB 58) 91 = .ok (.ireturn, 1) := by decide +kernel
theorem D58_81 : decode (mB 58) 81 = .ok (.aload_n 1, 1) := by decide +kernel
theorem D58_82 : decode (mB 58) 82 = .ok (.bipush 60, 2) := by decide +kernel
theorem D58_84 : CS 58 84 30 0 := ⟨.invokevirtual 119, by decide +kernel, by decide +kernel, by decide +kernel, by decide⟩
theorem D58_87 : BR 58 87 (.ifCond .ne 5) (5) 92 := ⟨by decide +kernel, by decide, by decide⟩
theorem D58_92 : decode (mB 58) 92 = .ok (.aload_n 1, 1) := by decide +kernel
theorem D58_93 : CS 58 93 31 0 := ⟨.invokevirtual 122, by decide +kernel, by decide +kernel, by decide +kernel, by decide⟩
theorem D58_96 : decode (mB 58) 96 = .ok (.istore 4, 2) := by decide +kernel
theorem D58_98 : decode (mB 58) 98 = .ok (.aload_n 1, 1) := by decide +kernel
theorem D58_99 : CS 58 99 15 0 := ⟨.invokevirtual 95, by decide +kernel, by decide +kernel, by decide +kernel, by decide⟩
theorem D58_102 : decode (mB 58) 102 = .ok (.aload_n 1, 1) := by decide +kernel
theorem D58_103 : decode (mB 58) 103 = .ok (.bipush 59, 2) := by decide +kernel
theorem D58_105 : CS 58 105 32 0 := ⟨.invokevirtual 125, by decide +kernel, by decide +kernel, by decide +kernel, by decide⟩
theorem D58_108 : BR 58 108 (.ifCond .ne 5) (5) 113 := ⟨by decide +kernel, by decide, by decide⟩
theorem D58_113 : decode (mB 58) 113 = .ok (.aload_n 0, 1) := by decide +kernel
theorem D58_114 : decode (mB 58) 114 = .ok (.iload_n 2, 1) := by decide +kernel
theorem D58_115 : decode (mB 58) 115 = .ok (.iload_n 3, 1) := by decide +kernel
theorem D58_116 : decode (mB 58) 116 = .ok (.iload 4, 2) := by decide +kernel
theorem D58_118 : CS 58 118 60 0 := ⟨.invokevirtual 191, by decide +kernel, by decide +kernel, by decide +kernel, by decide⟩
theorem D58_121 : decode (mB 58) 121 = .ok (.iconst 1, 1) := by decide +kernel
theorem D58_122 : decode (mB 58) 122 = .ok (.ireturn, 1) := by decide +kernel
theorem D58_111 : decode (mB 58) 111 = .ok (.iconst 0, 1) := by decide +kernel
theorem D58_112 : decode (mB 58) 112 = .ok (.ireturn, 1) := by decide +kernel
theorem Pa_readCock_e (d : Nat) (a0 : Nat) (a1 : Nat) (m : eM) (h_a0 : kd a0 = 4) (h_a1 : kd a1 = 8) : Pa_readCock (d + 1) a0 a1 m = bI (Ta_numberUpTo d a1 (1 : Int32) m) fun v2 m1 => if ¬ v2 = 0 then (bI (Ta_number d a1 m1) fun v4 m3 => bI (Pa_isCock d a0 v4 m3) fun v6 m5 => if v6 = 0 then (Pa_readCock_38 (d + 1) a0 a1 v4 m5) else (bR (gR m5 a0 12) fun r7 => ga m5 r7 23 v4 (if (gI m5 r7 v4.toNatClampNeg) = 0 then (Pa_readCock_38 (d + 1) a0 a1 v4 m5) else (bI (Ta_wrong d a1 (3 : Int32) m5) fun v9 m8 => yB v9 m8)))) else (yI (0 : Int32) m1) := by
  unfold Pa_readCock
  refine (x_aload1 D58_0 rfl).trans ?_
  refine (x_iconst D58_1 (k := 1) (by decide)).trans ?_
  refine (x_cI D58_2 M30 (fun z => by cases z) (I30 _ _) rfl rfl (ok_i M30 (I30 _ _) rfl rfl h_a1)).trans (bI_c fun v2 m1 => ?_)
  refine (x_ifne D58_5).trans (i_c ?_ ?_)
  · refine (x_aload1 D58_10 rfl).trans ?_
    refine (x_cI D58_11 M31 (fun z => by cases z) (I31 _) rfl rfl (ok_i M31 (I31 _) rfl rfl h_a1)).trans (bI_c fun v4 m3 => ?_)
    refine (x_istore1 D58_14 (ls' := [.ref a0, .ref a1, .int v4, eU, eU]) rfl rfl).trans ?_
    refine (x_aload1 D58_15 rfl).trans ?_
    refine (x_iload1 D58_16 rfl).trans ?_
    refine (x_cI D58_17 M59 (fun z => by cases z) (I59 _ _) rfl rfl (ok_i M59 (I59 _ _) rfl rfl h_a0)).trans (bI_c fun v6 m5 => ?_)
    refine (x_ifeq D58_20).trans (i_c ?_ ?_)
    · rfl
    · refine (x_aload1 D58_23 rfl).trans ?_
      refine ((x_getR D58_24).trans (gd_t h_a0)).trans (bR_c fun r7 => ?_)
      refine (x_iload1 D58_27 rfl).trans ?_
      refine (x_baload D58_28).trans (ga_c ?_)
      refine (x_ifeq D58_29).trans (i_c ?_ ?_)
      · rfl
      · refine (x_aload1 D58_32 rfl).trans ?_
        refine (x_iconst D58_33 (k := 3) (by decide)).trans ?_
        refine (x_cI D58_34 M25 (fun z => by cases z) (I25 _ _) rfl rfl (ok_i M25 (I25 _ _) rfl rfl h_a1)).trans (bI_c fun v9 m8 => ?_)
        exact x_bret D58_37 M58.2.2.1
  · refine (x_iconst D58_8 (k := 0) (by decide)).trans ?_
    exact (x_bret D58_9 M58.2.2.1).trans yB0
theorem Pa_readCock_38_e (d : Nat) (a0 : Nat) (a1 : Nat) (x2 : Int32) (m : eM) (h_a0 : kd a0 = 4) (h_a1 : kd a1 = 8) : Pa_readCock_38 (d + 1) a0 a1 x2 m = bV (Ta_step d a1 m) fun m1 => bI (Ta_takeWord d a1 (7102839 : Int64) m1) fun v3 m2 => if v3 = 0 then (yI (0 : Int32) m2) else (bI (Ta_numberUpTo d a1 (1 : Int32) m2) fun v5 m4 => if ¬ v5 = 0 then (bI (Ta_number d a1 m4) fun v7 m6 => bV (Ta_step d a1 m6) fun m8 => bI (Ta_takeWord d a1 (1818326117 : Int64) m8) fun v10 m9 => if v10 = 0 then (yI (0 : Int32) m9) else (bI (Ta_numberUpTo d a1 (60 : Int32) m9) fun v12 m11 => if ¬ v12 = 0 then (bI (Ta_number d a1 m11) fun v14 m13 => bV (Ta_step d a1 m13) fun m15 => bI (Ta_takeSign d a1 (59 : Int32) m15) fun v17 m16 => if ¬ v17 = 0 then (bV (Pa_addCock d a0 x2 v7 v14 m16) fun m18 => yI (1 : Int32) m18) else (yI (0 : Int32) m16)) else (yI (0 : Int32) m11))) else (yI (0 : Int32) m4)) := by
  unfold Pa_readCock_38
  refine (x_aload1 D58_38 rfl).trans ?_
  refine (x_cV D58_39 M15  (I15 _) rfl rfl (ok_i M15 (I15 _) rfl rfl h_a1)).trans (bV_c fun m1 => ?_)
  refine (x_aload1 D58_42 rfl).trans ?_
  refine (x_ldc2 D58_43 R58_43).trans ?_
  refine (x_cI D58_46 M36 (fun z => by cases z) (I36 _ _) rfl rfl (ok_i M36 (I36 _ _) rfl rfl h_a1)).trans (bI_c fun v3 m2 => ?_)
  refine (x_ifeq D58_49).trans (i_c ?_ ?_)
  · refine (x_iconst D58_60 (k := 0) (by decide)).trans ?_
    exact (x_bret D58_61 M58.2.2.1).trans yB0
  · refine (x_aload1 D58_52 rfl).trans ?_
    refine (x_iconst D58_53 (k := 1) (by decide)).trans ?_
    refine (x_cI D58_54 M30 (fun z => by cases z) (I30 _ _) rfl rfl (ok_i M30 (I30 _ _) rfl rfl h_a1)).trans (bI_c fun v5 m4 => ?_)
    refine (x_ifne D58_57).trans (i_c ?_ ?_)
    · refine (x_aload1 D58_62 rfl).trans ?_
      refine (x_cI D58_63 M31 (fun z => by cases z) (I31 _) rfl rfl (ok_i M31 (I31 _) rfl rfl h_a1)).trans (bI_c fun v7 m6 => ?_)
      refine (x_istore1 D58_66 (ls' := [.ref a0, .ref a1, .int x2, .int v7, eU]) rfl rfl).trans ?_
      refine (x_aload1 D58_67 rfl).trans ?_
      refine (x_cV D58_68 M15  (I15 _) rfl rfl (ok_i M15 (I15 _) rfl rfl h_a1)).trans (bV_c fun m8 => ?_)
      refine (x_aload1 D58_71 rfl).trans ?_
      refine (x_ldc2 D58_72 R58_72).trans ?_
      refine (x_cI D58_75 M36 (fun z => by cases z) (I36 _ _) rfl rfl (ok_i M36 (I36 _ _) rfl rfl h_a1)).trans (bI_c fun v10 m9 => ?_)
      refine (x_ifeq D58_78).trans (i_c ?_ ?_)
      · refine (x_iconst D58_90 (k := 0) (by decide)).trans ?_
        exact (x_bret D58_91 M58.2.2.1).trans yB0
      · refine (x_aload1 D58_81 rfl).trans ?_
        refine (x_bipush D58_82 (k := 60) (by decide)).trans ?_
        refine (x_cI D58_84 M30 (fun z => by cases z) (I30 _ _) rfl rfl (ok_i M30 (I30 _ _) rfl rfl h_a1)).trans (bI_c fun v12 m11 => ?_)
        refine (x_ifne D58_87).trans (i_c ?_ ?_)
        · refine (x_aload1 D58_92 rfl).trans ?_
          refine (x_cI D58_93 M31 (fun z => by cases z) (I31 _) rfl rfl (ok_i M31 (I31 _) rfl rfl h_a1)).trans (bI_c fun v14 m13 => ?_)
          refine (x_istore2 D58_96 (ls' := [.ref a0, .ref a1, .int x2, .int v7, .int v14]) rfl rfl).trans ?_
          refine (x_aload1 D58_98 rfl).trans ?_
          refine (x_cV D58_99 M15  (I15 _) rfl rfl (ok_i M15 (I15 _) rfl rfl h_a1)).trans (bV_c fun m15 => ?_)
          refine (x_aload1 D58_102 rfl).trans ?_
          refine (x_bipush D58_103 (k := 59) (by decide)).trans ?_
          refine (x_cI D58_105 M32 (fun z => by cases z) (I32 _ _) rfl rfl (ok_i M32 (I32 _ _) rfl rfl h_a1)).trans (bI_c fun v17 m16 => ?_)
          refine (x_ifne D58_108).trans (i_c ?_ ?_)
          · refine (x_aload1 D58_113 rfl).trans ?_
            refine (x_iload1 D58_114 rfl).trans ?_
            refine (x_iload1 D58_115 rfl).trans ?_
            refine (x_iload2 D58_116 rfl).trans ?_
            refine (x_cV D58_118 M60  (I60 _ _ _ _) rfl rfl (ok_i M60 (I60 _ _ _ _) rfl rfl h_a0)).trans (bV_c fun m18 => ?_)
            refine (x_iconst D58_121 (k := 1) (by decide)).trans ?_
            exact (x_bret D58_122 M58.2.2.1).trans yB1
          · refine (x_iconst D58_111 (k := 0) (by decide)).trans ?_
            exact (x_bret D58_112 M58.2.2.1).trans yB0
        · refine (x_iconst D58_90 (k := 0) (by decide)).trans ?_
          exact (x_bret D58_91 M58.2.2.1).trans yB0
    · refine (x_iconst D58_60 (k := 0) (by decide)).trans ?_
      exact (x_bret D58_61 M58.2.2.1).trans yB0
theorem D59_0 : decode (mB 59) 0 = .ok (.iload_n 1, 1) := by decide +kernel
theorem D59_1 : BR 59 1 (.ifCond .lt 34) (34) 35 := ⟨by decide +kernel, by decide, by decide⟩
theorem D59_35 : decode (mB 59) 35 = .ok (.iconst 0, 1) := by decide +kernel
theorem D59_36 : decode (mB 59) 36 = .ok (.ireturn, 1) := by decide +kernel
theorem D59_4 : decode (mB 59) 4 = .ok (.iload_n 1, 1) := by decide +kernel
theorem D59_5 : decode (mB 59) 5 = .ok (.aload_n 0, 1) := by decide +kernel
theorem D59_6 : GF 59 6 4 12 2 := ⟨37, true, by decide +kernel, by decide +kernel⟩
theorem D59_9 : decode (mB 59) 9 = .ok (.arraylength, 1) := by decide +kernel
theorem D59_10 : BR 59 10 (.if_icmp .ge 25) (25) 35 := ⟨by decide +kernel, by decide, by decide⟩
theorem D59_13 : decode (mB 59) 13 = .ok (.iload_n 1, 1) := by decide +kernel
theorem D59_14 : decode (mB 59) 14 = .ok (.aload_n 0, 1) := by decide +kernel
theorem D59_15 : GF 59 15 4 13 2 := ⟨41, true, by decide +kernel, by decide +kernel⟩
theorem D59_18 : decode (mB 59) 18 = .ok (.arraylength, 1) := by decide +kernel
theorem D59_19 : BR 59 19 (.if_icmp .ge 16) (16) 35 := ⟨by decide +kernel, by decide, by decide⟩
theorem D59_22 : decode (mB 59) 22 = .ok (.iload_n 1, 1) := by decide +kernel
theorem D59_23 : decode (mB 59) 23 = .ok (.aload_n 0, 1) := by decide +kernel
theorem D59_24 : GF 59 24 4 14 2 := ⟨44, true, by decide +kernel, by decide +kernel⟩
theorem D59_27 : decode (mB 59) 27 = .ok (.arraylength, 1) := by decide +kernel
theorem D59_28 : BR 59 28 (.if_icmp .ge 7) (7) 35 := ⟨by decide +kernel, by decide, by decide⟩
theorem D59_31 : decode (mB 59) 31 = .ok (.iconst 1, 1) := by decide +kernel
theorem D59_32 : BR 59 32 (.goto 4) (4) 36 := ⟨by decide +kernel, by decide, by decide⟩
theorem Pa_isCock_e (d : Nat) (a0 : Nat) (x1 : Int32) (m : eM) (h_a0 : kd a0 = 4) : Pa_isCock d a0 x1 m = if x1 < 0 then (yI (0 : Int32) m) else (bR (gR m a0 12) fun r1 => gl r1 (if ((aln m r1).toInt32) ≤ x1 then (yI (0 : Int32) m) else (bR (gR m a0 13) fun r2 => gl r2 (if ((aln m r2).toInt32) ≤ x1 then (yI (0 : Int32) m) else (bR (gR m a0 14) fun r3 => gl r3 (if ((aln m r3).toInt32) ≤ x1 then (yI (0 : Int32) m) else (yI (1 : Int32) m))))))) := by
  unfold Pa_isCock
  refine (x_iload1 D59_0 rfl).trans ?_
  refine (x_iflt D59_1).trans (i_c ?_ ?_)
  · refine (x_iconst D59_35 (k := 0) (by decide)).trans ?_
    exact (x_bret D59_36 M59.2.2.1).trans yB0
  · refine (x_iload1 D59_4 rfl).trans ?_
    refine (x_aload1 D59_5 rfl).trans ?_
    refine ((x_getR D59_6).trans (gd_t h_a0)).trans (bR_c fun r1 => ?_)
    refine (x_alen D59_9).trans (gl_c ?_)
    refine (x_cge D59_10).trans (i_c ?_ ?_)
    · refine (x_iconst D59_35 (k := 0) (by decide)).trans ?_
      exact (x_bret D59_36 M59.2.2.1).trans yB0
    · refine (x_iload1 D59_13 rfl).trans ?_
      refine (x_aload1 D59_14 rfl).trans ?_
      refine ((x_getR D59_15).trans (gd_t h_a0)).trans (bR_c fun r2 => ?_)
      refine (x_alen D59_18).trans (gl_c ?_)
      refine (x_cge D59_19).trans (i_c ?_ ?_)
      · refine (x_iconst D59_35 (k := 0) (by decide)).trans ?_
        exact (x_bret D59_36 M59.2.2.1).trans yB0
      · refine (x_iload1 D59_22 rfl).trans ?_
        refine (x_aload1 D59_23 rfl).trans ?_
        refine ((x_getR D59_24).trans (gd_t h_a0)).trans (bR_c fun r3 => ?_)
        refine (x_alen D59_27).trans (gl_c ?_)
        refine (x_cge D59_28).trans (i_c ?_ ?_)
        · refine (x_iconst D59_35 (k := 0) (by decide)).trans ?_
          exact (x_bret D59_36 M59.2.2.1).trans yB0
        · refine (x_iconst D59_31 (k := 1) (by decide)).trans ?_
          refine (x_goto D59_32).trans ?_
          exact (x_bret D59_36 M59.2.2.1).trans yB1
theorem D60_0 : decode (mB 60) 0 = .ok (.aload_n 0, 1) := by decide +kernel
theorem D60_1 : decode (mB 60) 1 = .ok (.iload_n 1, 1) := by decide +kernel
theorem D60_2 : CS 60 2 59 0 := ⟨.invokevirtual 184, by decide +kernel, by decide +kernel, by decide +kernel, by decide⟩
theorem D60_5 : BR 60 5 (.ifCond .eq 24) (24) 29 := ⟨by decide +kernel, by decide, by decide⟩
theorem D60_29 : decode (mB 60) 29 = .ok (.return_, 1) := by decide +kernel
theorem D60_8 : decode (mB 60) 8 = .ok (.aload_n 0, 1) := by decide +kernel
theorem D60_9 : GF 60 9 4 12 2 := ⟨37, true, by decide +kernel, by decide +kernel⟩
theorem D60_12 : decode (mB 60) 12 = .ok (.iload_n 1, 1) := by decide +kernel
theorem D60_13 : decode (mB 60) 13 = .ok (.iconst 1, 1) := by decide +kernel
theorem D60_14 : decode (mB 60) 14 = .ok (.bastore, 1) := by decide +kernel
theorem D60_15 : decode (mB 60) 15 = .ok (.aload_n 0, 1) := by decide +kernel
theorem D60_16 : GF 60 16 4 13 2 := ⟨41, true, by decide +kernel, by decide +kernel⟩
theorem D60_19 : decode (mB 60) 19 = .ok (.iload_n 1, 1) := by decide +kernel
theorem D60_20 : decode (mB 60) 20 = .ok (.iload_n 2, 1) := by decide +kernel
theorem D60_21 : decode (mB 60) 21 = .ok (.iastore, 1) := by decide +kernel
theorem D60_22 : decode (mB 60) 22 = .ok (.aload_n 0, 1) := by decide +kernel
theorem D60_23 : GF 60 23 4 14 2 := ⟨44, true, by decide +kernel, by decide +kernel⟩
theorem D60_26 : decode (mB 60) 26 = .ok (.iload_n 1, 1) := by decide +kernel
theorem D60_27 : decode (mB 60) 27 = .ok (.iload_n 3, 1) := by decide +kernel
theorem D60_28 : decode (mB 60) 28 = .ok (.iastore, 1) := by decide +kernel
theorem Pa_addCock_e (d : Nat) (a0 : Nat) (x1 : Int32) (x2 : Int32) (x3 : Int32) (m : eM) (h_a0 : kd a0 = 4) : Pa_addCock (d + 1) a0 x1 x2 x3 m = bI (Pa_isCock d a0 x1 m) fun v2 m1 => if v2 = 0 then (yV m1) else (bR (gR m1 a0 12) fun r3 => gw m1 r3 23 x1 (mI m1 r3 x1.toNatClampNeg ((1 : Int32) &&& 1) fun m4 => bR (gR m4 a0 13) fun r5 => gw m4 r5 20 x1 (mI m4 r5 x1.toNatClampNeg x2 fun m6 => bR (gR m6 a0 14) fun r7 => gw m6 r7 20 x1 (mI m6 r7 x1.toNatClampNeg x3 fun m8 => yV m8)))) := by
  unfold Pa_addCock
  refine (x_aload1 D60_0 rfl).trans ?_
  refine (x_iload1 D60_1 rfl).trans ?_
  refine (x_cI D60_2 M59 (fun z => by cases z) (I59 _ _) rfl rfl (ok_i M59 (I59 _ _) rfl rfl h_a0)).trans (bI_c fun v2 m1 => ?_)
  refine (x_ifeq D60_5).trans (i_c ?_ ?_)
  · exact x_vret D60_29 M60.2.2.1
  · refine (x_aload1 D60_8 rfl).trans ?_
    refine ((x_getR D60_9).trans (gd_t h_a0)).trans (bR_c fun r3 => ?_)
    refine (x_iload1 D60_12 rfl).trans ?_
    refine (x_iconst D60_13 (k := 1) (by decide)).trans ?_
    refine (x_bastore D60_14).trans (gw_c ?_)
    refine mI_i (fun m4 => X (d + 1) 60 15 [.ref a0, .int x1, .int x2, .int x3] [] m4) _ ?_
    intro m4
    refine (x_aload1 D60_15 rfl).trans ?_
    refine ((x_getR D60_16).trans (gd_t h_a0)).trans (bR_c fun r5 => ?_)
    refine (x_iload1 D60_19 rfl).trans ?_
    refine (x_iload1 D60_20 rfl).trans ?_
    refine (x_iastore D60_21).trans (gw_c ?_)
    refine mI_i (fun m6 => X (d + 1) 60 22 [.ref a0, .int x1, .int x2, .int x3] [] m6) _ ?_
    intro m6
    refine (x_aload1 D60_22 rfl).trans ?_
    refine ((x_getR D60_23).trans (gd_t h_a0)).trans (bR_c fun r7 => ?_)
    refine (x_iload1 D60_26 rfl).trans ?_
    refine (x_iload1 D60_27 rfl).trans ?_
    refine (x_iastore D60_28).trans (gw_c ?_)
    refine mI_i (fun m8 => X (d + 1) 60 29 [.ref a0, .int x1, .int x2, .int x3] [] m8) _ ?_
    intro m8
    exact x_vret D60_29 M60.2.2.1
theorem D68_0 : decode (mB 68) 0 = .ok (.iload_n 1, 1) := by decide +kernel
theorem D68_1 : BR 68 1 (.ifCond .lt 15) (15) 16 := ⟨by decide +kernel, by decide, by decide⟩
theorem D68_16 : decode (mB 68) 16 = .ok (.iconst 0, 1) := by decide +kernel
theorem D68_17 : decode (mB 68) 17 = .ok (.ireturn, 1) := by decide +kernel
theorem D68_4 : decode (mB 68) 4 = .ok (.iload_n 1, 1) := by decide +kernel
theorem D68_5 : decode (mB 68) 5 = .ok (.aload_n 0, 1) := by decide +kernel
theorem D68_6 : GF 68 6 4 2 0 := ⟨141, false, by decide +kernel, by decide +kernel⟩
theorem D68_9 : BR 68 9 (.if_icmp .ge 7) (7) 16 := ⟨by decide +kernel, by decide, by decide⟩
theorem D68_12 : decode (mB 68) 12 = .ok (.iconst 1, 1) := by decide +kernel
theorem D68_13 : BR 68 13 (.goto 4) (4) 17 := ⟨by decide +kernel, by decide, by decide⟩
theorem Pa_isPerson_e (d : Nat) (a0 : Nat) (x1 : Int32) (m : eM) (h_a0 : kd a0 = 4) : Pa_isPerson d a0 x1 m = if x1 < 0 then (yI (0 : Int32) m) else (if (gI m a0 2) ≤ x1 then (yI (0 : Int32) m) else (yI (1 : Int32) m)) := by
  unfold Pa_isPerson
  refine (x_iload1 D68_0 rfl).trans ?_
  refine (x_iflt D68_1).trans (i_c ?_ ?_)
  · refine (x_iconst D68_16 (k := 0) (by decide)).trans ?_
    exact (x_bret D68_17 M68.2.2.1).trans yB0
  · refine (x_iload1 D68_4 rfl).trans ?_
    refine (x_aload1 D68_5 rfl).trans ?_
    refine ((x_getI D68_6).trans (gd_t h_a0)).trans ?_
    refine (x_cge D68_9).trans (i_c ?_ ?_)
    · refine (x_iconst D68_16 (k := 0) (by decide)).trans ?_
      exact (x_bret D68_17 M68.2.2.1).trans yB0
    · refine (x_iconst D68_12 (k := 1) (by decide)).trans ?_
      refine (x_goto D68_13).trans ?_
      exact (x_bret D68_17 M68.2.2.1).trans yB1
theorem D78_0 : decode (mB 78) 0 = .ok (.aload_n 0, 1) := by decide +kernel
theorem D78_1 : GF 78 1 4 0 0 := ⟨109, false, by decide +kernel, by decide +kernel⟩
theorem D78_4 : decode (mB 78) 4 = .ok (.ireturn, 1) := by decide +kernel
theorem Pa_facts_e (d : Nat) (a0 : Nat) (m : eM) (h_a0 : kd a0 = 4) : Pa_facts d a0 m = yI (gI m a0 0) m := by
  unfold Pa_facts
  refine (x_aload1 D78_0 rfl).trans ?_
  refine ((x_getI D78_1).trans (gd_t h_a0)).trans ?_
  exact x_iret D78_4 M78.2.2.1
theorem D80_0 : decode (mB 80) 0 = .ok (.iload_n 3, 1) := by decide +kernel
theorem D80_1 : BR 80 1 (.ifCond .ne 14) (14) 15 := ⟨by decide +kernel, by decide, by decide⟩
theorem D80_15 : decode (mB 80) 15 = .ok (.lload_n 1, 1) := by decide +kernel
theorem D80_16 : decode (mB 80) 16 = .ok (.aload_n 0, 1) := by decide +kernel
theorem D80_17 : GF 80 17 4 15 1 := ⟨47, false, by decide +kernel, by decide +kernel⟩
theorem D80_20 : decode (mB 80) 20 = .ok (.land, 1) := by decide +kernel
theorem D80_21 : decode (mB 80) 21 = .ok (.lstore 5, 2) := by decide +kernel
theorem D80_23 : decode (mB 80) 23 = .ok (.iconst 0, 1) := by decide +kernel
theorem D80_24 : decode (mB 80) 24 = .ok (.istore 7, 2) := by decide +kernel
theorem D80_4 : decode (mB 80) 4 = .ok (.aload_n 0, 1) := by decide +kernel
theorem D80_5 : CS 80 5 81 0 := ⟨.invokevirtual 200, by decide +kernel, by decide +kernel, by decide +kernel, by decide⟩
theorem D80_8 : decode (mB 80) 8 = .ok (.lload_n 1, 1) := by decide +kernel
theorem R80_9 : lRes (mC 80) 198 = some (-1) := by decide +kernel
theorem D80_9 : decode (mB 80) 9 = .ok (.ldc2_w 198, 3) := by decide +kernel
theorem D80_12 : decode (mB 80) 12 = .ok (.lxor, 1) := by decide +kernel
theorem D80_13 : decode (mB 80) 13 = .ok (.land, 1) := by decide +kernel
theorem D80_14 : decode (mB 80) 14 = .ok (.lreturn, 1) := by decide +kernel
theorem D80_26 : decode (mB 80) 26 = .ok (.iload 7, 2) := by decide +kernel
theorem D80_28 : decode (mB 80) 28 = .ok (.aload_n 0, 1) := by decide +kernel
theorem D80_29 : GF 80 29 4 0 0 := ⟨109, false, by decide +kernel, by decide +kernel⟩
theorem D80_32 : BR 80 32 (.if_icmp .ge 35) (35) 67 := ⟨by decide +kernel, by decide, by decide⟩
theorem D80_67 : decode (mB 80) 67 = .ok (.aload_n 0, 1) := by decide +kernel
theorem D80_68 : CS 80 68 81 0 := ⟨.invokevirtual 200, by decide +kernel, by decide +kernel, by decide +kernel, by decide⟩
theorem D80_71 : decode (mB 80) 71 = .ok (.lload 5, 2) := by decide +kernel
theorem R80_73 : lRes (mC 80) 198 = some (-1) := by decide +kernel
theorem D80_73 : decode (mB 80) 73 = .ok (.ldc2_w 198, 3) := by decide +kernel
theorem D80_76 : decode (mB 80) 76 = .ok (.lxor, 1) := by decide +kernel
theorem D80_77 : decode (mB 80) 77 = .ok (.land, 1) := by decide +kernel
theorem D80_78 : decode (mB 80) 78 = .ok (.lreturn, 1) := by decide +kernel
theorem D80_35 : decode (mB 80) 35 = .ok (.aload_n 0, 1) := by decide +kernel
theorem D80_36 : decode (mB 80) 36 = .ok (.iload 4, 2) := by decide +kernel
theorem D80_38 : CS 80 38 82 0 := ⟨.invokevirtual 210, by decide +kernel, by decide +kernel, by decide +kernel, by decide⟩
theorem D80_41 : decode (mB 80) 41 = .ok (.iload 7, 2) := by decide +kernel
theorem D80_43 : decode (mB 80) 43 = .ok (.ishr, 1) := by decide +kernel
theorem D80_44 : decode (mB 80) 44 = .ok (.iconst 1, 1) := by decide +kernel
theorem D80_45 : decode (mB 80) 45 = .ok (.iand, 1) := by decide +kernel
theorem D80_46 : BR 80 46 (.ifCond .ne 15) (15) 61 := ⟨by decide +kernel, by decide, by decide⟩
theorem D80_61 : decode (mB 80) 61 = .ok (.iinc 7 1, 3) := by decide +kernel
theorem D80_64 : BR 80 64 (.goto (-38)) (-38) 26 := ⟨by decide +kernel, by decide, by decide⟩
theorem D80_49 : decode (mB 80) 49 = .ok (.lload 5, 2) := by decide +kernel
theorem D80_51 : decode (mB 80) 51 = .ok (.lload 5, 2) := by decide +kernel
theorem D80_53 : decode (mB 80) 53 = .ok (.iload 7, 2) := by decide +kernel
theorem D80_55 : CS 80 55 83 2 := ⟨.invokestatic 214, by decide +kernel, by decide +kernel, by decide +kernel, by decide⟩
theorem D80_58 : decode (mB 80) 58 = .ok (.lor, 1) := by decide +kernel
theorem D80_59 : decode (mB 80) 59 = .ok (.lstore 5, 2) := by decide +kernel
theorem Pa_lies_e (d : Nat) (a0 : Nat) (y1 : Int64) (x3 : Int32) (x4 : Int32) (m : eM) (h_a0 : kd a0 = 4) : Pa_lies (d + 1) a0 y1 x3 x4 m = if ¬ x3 = 0 then (Pa_lies_26 (d + 1) a0 y1 x3 x4 (y1 &&& (gL m a0 15)) (0 : Int32) m) else (bL (Pa_allWorlds d a0 m) fun v2 m1 => yL (v2 &&& (y1 ^^^ (-1 : Int64))) m1) := by
  unfold Pa_lies
  refine (x_iload1 D80_0 rfl).trans ?_
  refine (x_ifne D80_1).trans (i_c ?_ ?_)
  · refine (x_lload1 D80_15 rfl).trans ?_
    refine (x_aload1 D80_16 rfl).trans ?_
    refine ((x_getL D80_17).trans (gd_t h_a0)).trans ?_
    refine (x_land D80_20).trans ?_
    refine (x_lstore2 D80_21 (ls' := [.ref a0, .long y1, eU, .int x3, .int x4, .long (y1 &&& (gL m a0 15)), eU, eU]) rfl rfl).trans ?_
    refine (x_iconst D80_23 (k := 0) (by decide)).trans ?_
    refine (x_istore2 D80_24 (ls' := [.ref a0, .long y1, eU, .int x3, .int x4, .long (y1 &&& (gL m a0 15)), eU, .int (0 : Int32)]) rfl rfl).trans ?_
    rfl
  · refine (x_aload1 D80_4 rfl).trans ?_
    refine (x_cL D80_5 M81  (I81 _) rfl rfl (ok_i M81 (I81 _) rfl rfl h_a0)).trans (bL_c fun v2 m1 => ?_)
    refine (x_lload1 D80_8 rfl).trans ?_
    refine (x_ldc2 D80_9 R80_9).trans ?_
    refine (x_lxor D80_12).trans ?_
    refine (x_land D80_13).trans ?_
    exact x_lret D80_14 M80.2.2.1
theorem Pa_lies_26_e (d : Nat) (a0 : Nat) (y1 : Int64) (x3 : Int32) (x4 : Int32) (y5 : Int64) (x7 : Int32) (m : eM) (h_a0 : kd a0 = 4) : Pa_lies_26 (d + 1) a0 y1 x3 x4 y5 x7 m = if (gI m a0 0) ≤ x7 then (bL (Pa_allWorlds d a0 m) fun v2 m1 => yL (v2 &&& (y5 ^^^ (-1 : Int64))) m1) else (bI (Pa_known d a0 x4 m) fun v4 m3 => if ¬ ((v4 >>> (x7 &&& 31)) &&& (1 : Int32)) = 0 then (Pa_lies_26 (d + 1) a0 y1 x3 x4 y5 (x7 + (1 : Int32)) m3) else (bL (Pa_eitherWay d y5 x7 m3) fun v6 m5 => Pa_lies_26 (d + 1) a0 y1 x3 x4 (y5 ||| v6) (x7 + (1 : Int32)) m5)) := by
  unfold Pa_lies_26
  refine (x_iload2 D80_26 rfl).trans ?_
  refine (x_aload1 D80_28 rfl).trans ?_
  refine ((x_getI D80_29).trans (gd_t h_a0)).trans ?_
  refine (x_cge D80_32).trans (i_c ?_ ?_)
  · refine (x_aload1 D80_67 rfl).trans ?_
    refine (x_cL D80_68 M81  (I81 _) rfl rfl (ok_i M81 (I81 _) rfl rfl h_a0)).trans (bL_c fun v2 m1 => ?_)
    refine (x_lload2 D80_71 rfl).trans ?_
    refine (x_ldc2 D80_73 R80_73).trans ?_
    refine (x_lxor D80_76).trans ?_
    refine (x_land D80_77).trans ?_
    exact x_lret D80_78 M80.2.2.1
  · refine (x_aload1 D80_35 rfl).trans ?_
    refine (x_iload2 D80_36 rfl).trans ?_
    refine (x_cI D80_38 M82 (fun z => by cases z) (I82 _ _) rfl rfl (ok_i M82 (I82 _ _) rfl rfl h_a0)).trans (bI_c fun v4 m3 => ?_)
    refine (x_iload2 D80_41 rfl).trans ?_
    refine (x_ishr D80_43).trans ?_
    refine (x_iconst D80_44 (k := 1) (by decide)).trans ?_
    refine (x_iand D80_45).trans ?_
    refine (x_ifne D80_46).trans (i_c ?_ ?_)
    · refine (x_iinc D80_61 rfl (k := 1) (by decide) (ls' := [.ref a0, .long y1, eU, .int x3, .int x4, .long y5, eU, .int (x7 + (1 : Int32))]) rfl).trans ?_
      refine (x_goto D80_64).trans ?_
      rfl
    · refine (x_lload2 D80_49 rfl).trans ?_
      refine (x_lload2 D80_51 rfl).trans ?_
      refine (x_iload2 D80_53 rfl).trans ?_
      refine (x_cL D80_55 M83  (I83 _ _) rfl rfl (ok_s M83 (I83 _ _) rfl rfl)).trans (bL_c fun v6 m5 => ?_)
      refine (x_lor D80_58).trans ?_
      refine (x_lstore2 D80_59 (ls' := [.ref a0, .long y1, eU, .int x3, .int x4, .long (y5 ||| v6), eU, .int x7]) rfl rfl).trans ?_
      refine (x_iinc D80_61 rfl (k := 1) (by decide) (ls' := [.ref a0, .long y1, eU, .int x3, .int x4, .long (y5 ||| v6), eU, .int (x7 + (1 : Int32))]) rfl).trans ?_
      refine (x_goto D80_64).trans ?_
      rfl
theorem D81_0 : decode (mB 81) 0 = .ok (.aload_n 0, 1) := by decide +kernel
theorem D81_1 : GF 81 1 4 0 0 := ⟨109, false, by decide +kernel, by decide +kernel⟩
theorem D81_4 : decode (mB 81) 4 = .ok (.bipush 6, 2) := by decide +kernel
theorem D81_6 : BR 81 6 (.if_icmp .lt 9) (9) 15 := ⟨by decide +kernel, by decide, by decide⟩
theorem D81_15 : decode (mB 81) 15 = .ok (.lconst 1, 1) := by decide +kernel
theorem D81_16 : decode (mB 81) 16 = .ok (.iconst 1, 1) := by decide +kernel
theorem D81_17 : decode (mB 81) 17 = .ok (.aload_n 0, 1) := by decide +kernel
theorem D81_18 : GF 81 18 4 0 0 := ⟨109, false, by decide +kernel, by decide +kernel⟩
theorem D81_21 : decode (mB 81) 21 = .ok (.ishl, 1) := by decide +kernel
theorem D81_22 : decode (mB 81) 22 = .ok (.lshl, 1) := by decide +kernel
theorem D81_23 : decode (mB 81) 23 = .ok (.lconst 1, 1) := by decide +kernel
theorem D81_24 : decode (mB 81) 24 = .ok (.lsub, 1) := by decide +kernel
theorem D81_25 : decode (mB 81) 25 = .ok (.lreturn, 1) := by decide +kernel
theorem R81_9 : lRes (mC 81) 198 = some (-1) := by decide +kernel
theorem D81_9 : decode (mB 81) 9 = .ok (.ldc2_w 198, 3) := by decide +kernel
theorem D81_12 : BR 81 12 (.goto 13) (13) 25 := ⟨by decide +kernel, by decide, by decide⟩
theorem Pa_allWorlds_e (d : Nat) (a0 : Nat) (m : eM) (h_a0 : kd a0 = 4) : Pa_allWorlds d a0 m = if (gI m a0 0) < (6 : Int32) then (yL (((1 : Int64) <<< (((1 : Int32) <<< ((gI m a0 0) &&& 31)).toInt64 &&& 63)) - (1 : Int64)) m) else (yL (-1 : Int64) m) := by
  unfold Pa_allWorlds
  refine (x_aload1 D81_0 rfl).trans ?_
  refine ((x_getI D81_1).trans (gd_t h_a0)).trans ?_
  refine (x_bipush D81_4 (k := 6) (by decide)).trans ?_
  refine (x_clt D81_6).trans (i_c ?_ ?_)
  · refine (x_lconst1 D81_15).trans ?_
    refine (x_iconst D81_16 (k := 1) (by decide)).trans ?_
    refine (x_aload1 D81_17 rfl).trans ?_
    refine ((x_getI D81_18).trans (gd_t h_a0)).trans ?_
    refine (x_ishl D81_21).trans ?_
    refine (x_lshl D81_22).trans ?_
    refine (x_lconst1 D81_23).trans ?_
    refine (x_lsub D81_24).trans ?_
    exact x_lret D81_25 M81.2.2.1
  · refine (x_ldc2 D81_9 R81_9).trans ?_
    refine (x_goto D81_12).trans ?_
    exact x_lret D81_25 M81.2.2.1
theorem D82_0 : decode (mB 82) 0 = .ok (.aload_n 0, 1) := by decide +kernel
theorem D82_1 : decode (mB 82) 1 = .ok (.iload_n 1, 1) := by decide +kernel
theorem D82_2 : CS 82 2 68 0 := ⟨.invokevirtual 195, by decide +kernel, by decide +kernel, by decide +kernel, by decide⟩
theorem D82_5 : BR 82 5 (.ifCond .eq 21) (21) 26 := ⟨by decide +kernel, by decide, by decide⟩
theorem D82_26 : decode (mB 82) 26 = .ok (.iconst 0, 1) := by decide +kernel
theorem D82_27 : decode (mB 82) 27 = .ok (.ireturn, 1) := by decide +kernel
theorem D82_8 : decode (mB 82) 8 = .ok (.iload_n 1, 1) := by decide +kernel
theorem D82_9 : decode (mB 82) 9 = .ok (.aload_n 0, 1) := by decide +kernel
theorem D82_10 : GF 82 10 4 11 2 := ⟨34, true, by decide +kernel, by decide +kernel⟩
theorem D82_13 : decode (mB 82) 13 = .ok (.arraylength, 1) := by decide +kernel
theorem D82_14 : BR 82 14 (.if_icmp .ge 12) (12) 26 := ⟨by decide +kernel, by decide, by decide⟩
theorem D82_17 : decode (mB 82) 17 = .ok (.aload_n 0, 1) := by decide +kernel
theorem D82_18 : GF 82 18 4 11 2 := ⟨34, true, by decide +kernel, by decide +kernel⟩
theorem D82_21 : decode (mB 82) 21 = .ok (.iload_n 1, 1) := by decide +kernel
theorem D82_22 : decode (mB 82) 22 = .ok (.iaload, 1) := by decide +kernel
theorem D82_23 : BR 82 23 (.goto 4) (4) 27 := ⟨by decide +kernel, by decide, by decide⟩
theorem Pa_known_e (d : Nat) (a0 : Nat) (x1 : Int32) (m : eM) (h_a0 : kd a0 = 4) : Pa_known (d + 1) a0 x1 m = bI (Pa_isPerson d a0 x1 m) fun v2 m1 => if v2 = 0 then (yI (0 : Int32) m1) else (bR (gR m1 a0 11) fun r3 => gl r3 (if ((aln m1 r3).toInt32) ≤ x1 then (yI (0 : Int32) m1) else (bR (gR m1 a0 11) fun r4 => ga m1 r4 20 x1 (yI (gI m1 r4 x1.toNatClampNeg) m1)))) := by
  unfold Pa_known
  refine (x_aload1 D82_0 rfl).trans ?_
  refine (x_iload1 D82_1 rfl).trans ?_
  refine (x_cI D82_2 M68 (fun z => by cases z) (I68 _ _) rfl rfl (ok_i M68 (I68 _ _) rfl rfl h_a0)).trans (bI_c fun v2 m1 => ?_)
  refine (x_ifeq D82_5).trans (i_c ?_ ?_)
  · refine (x_iconst D82_26 (k := 0) (by decide)).trans ?_
    exact x_iret D82_27 M82.2.2.1
  · refine (x_iload1 D82_8 rfl).trans ?_
    refine (x_aload1 D82_9 rfl).trans ?_
    refine ((x_getR D82_10).trans (gd_t h_a0)).trans (bR_c fun r3 => ?_)
    refine (x_alen D82_13).trans (gl_c ?_)
    refine (x_cge D82_14).trans (i_c ?_ ?_)
    · refine (x_iconst D82_26 (k := 0) (by decide)).trans ?_
      exact x_iret D82_27 M82.2.2.1
    · refine (x_aload1 D82_17 rfl).trans ?_
      refine ((x_getR D82_18).trans (gd_t h_a0)).trans (bR_c fun r4 => ?_)
      refine (x_iload1 D82_21 rfl).trans ?_
      refine (x_iaload D82_22).trans (ga_c ?_)
      refine (x_goto D82_23).trans ?_
      exact x_iret D82_27 M82.2.2.1
theorem D83_0 : decode (mB 83) 0 = .ok (.iconst 1, 1) := by decide +kernel
theorem D83_1 : decode (mB 83) 1 = .ok (.iload_n 2, 1) := by decide +kernel
theorem D83_2 : decode (mB 83) 2 = .ok (.ishl, 1) := by decide +kernel
theorem D83_3 : decode (mB 83) 3 = .ok (.istore_n 3, 1) := by decide +kernel
theorem D83_4 : decode (mB 83) 4 = .ok (.lload_n 0, 1) := by decide +kernel
theorem D83_5 : decode (mB 83) 5 = .ok (.iload_n 2, 1) := by decide +kernel
theorem D83_6 : CS 83 6 84 2 := ⟨.invokestatic 203, by decide +kernel, by decide +kernel, by decide +kernel, by decide⟩
theorem D83_9 : decode (mB 83) 9 = .ok (.land, 1) := by decide +kernel
theorem D83_10 : decode (mB 83) 10 = .ok (.iload_n 3, 1) := by decide +kernel
theorem D83_11 : decode (mB 83) 11 = .ok (.lushr, 1) := by decide +kernel
theorem D83_12 : decode (mB 83) 12 = .ok (.lload_n 0, 1) := by decide +kernel
theorem D83_13 : decode (mB 83) 13 = .ok (.iload_n 2, 1) := by decide +kernel
theorem D83_14 : CS 83 14 84 2 := ⟨.invokestatic 203, by decide +kernel, by decide +kernel, by decide +kernel, by decide⟩
theorem R83_17 : lRes (mC 83) 198 = some (-1) := by decide +kernel
theorem D83_17 : decode (mB 83) 17 = .ok (.ldc2_w 198, 3) := by decide +kernel
theorem D83_20 : decode (mB 83) 20 = .ok (.lxor, 1) := by decide +kernel
theorem D83_21 : decode (mB 83) 21 = .ok (.land, 1) := by decide +kernel
theorem D83_22 : decode (mB 83) 22 = .ok (.iload_n 3, 1) := by decide +kernel
theorem D83_23 : decode (mB 83) 23 = .ok (.lshl, 1) := by decide +kernel
theorem D83_24 : decode (mB 83) 24 = .ok (.lor, 1) := by decide +kernel
theorem D83_25 : decode (mB 83) 25 = .ok (.lreturn, 1) := by decide +kernel
theorem Pa_eitherWay_e (d : Nat) (y0 : Int64) (x2 : Int32) (m : eM)  : Pa_eitherWay (d + 1) y0 x2 m = bL (LC_factSo d x2 m) fun v2 m1 => bL (LC_factSo d x2 m1) fun v4 m3 => yL ((((y0 &&& v2).toUInt64 >>> (((1 : Int32) <<< (x2 &&& 31)).toInt64.toUInt64 &&& Int64.toUInt64 63)).toInt64) ||| ((y0 &&& (v4 ^^^ (-1 : Int64))) <<< (((1 : Int32) <<< (x2 &&& 31)).toInt64 &&& 63))) m3 := by
  unfold Pa_eitherWay
  refine (x_iconst D83_0 (k := 1) (by decide)).trans ?_
  refine (x_iload1 D83_1 rfl).trans ?_
  refine (x_ishl D83_2).trans ?_
  refine (x_istore1 D83_3 (ls' := [.long y0, eU, .int x2, .int ((1 : Int32) <<< (x2 &&& 31))]) rfl rfl).trans ?_
  refine (x_lload1 D83_4 rfl).trans ?_
  refine (x_iload1 D83_5 rfl).trans ?_
  refine (x_cL D83_6 M84  (I84 _) rfl rfl (ok_s M84 (I84 _) rfl rfl)).trans (bL_c fun v2 m1 => ?_)
  refine (x_land D83_9).trans ?_
  refine (x_iload1 D83_10 rfl).trans ?_
  refine (x_lushr D83_11).trans ?_
  refine (x_lload1 D83_12 rfl).trans ?_
  refine (x_iload1 D83_13 rfl).trans ?_
  refine (x_cL D83_14 M84  (I84 _) rfl rfl (ok_s M84 (I84 _) rfl rfl)).trans (bL_c fun v4 m3 => ?_)
  refine (x_ldc2 D83_17 R83_17).trans ?_
  refine (x_lxor D83_20).trans ?_
  refine (x_land D83_21).trans ?_
  refine (x_iload1 D83_22 rfl).trans ?_
  refine (x_lshl D83_23).trans ?_
  refine (x_lor D83_24).trans ?_
  exact x_lret D83_25 M83.2.2.1
theorem D87_0 : decode (mB 87) 0 = .ok (.iload_n 1, 1) := by decide +kernel
theorem D87_1 : BR 87 1 (.ifCond .lt 17) (17) 18 := ⟨by decide +kernel, by decide, by decide⟩
theorem D87_18 : decode (mB 87) 18 = .ok (.iconst 0, 1) := by decide +kernel
theorem D87_19 : decode (mB 87) 19 = .ok (.ireturn, 1) := by decide +kernel
theorem D87_4 : decode (mB 87) 4 = .ok (.iload_n 1, 1) := by decide +kernel
theorem D87_5 : decode (mB 87) 5 = .ok (.iconst 1, 1) := by decide +kernel
theorem D87_6 : decode (mB 87) 6 = .ok (.aload_n 0, 1) := by decide +kernel
theorem D87_7 : GF 87 7 4 0 0 := ⟨109, false, by decide +kernel, by decide +kernel⟩
theorem D87_10 : decode (mB 87) 10 = .ok (.ishl, 1) := by decide +kernel
theorem D87_11 : BR 87 11 (.if_icmp .ge 7) (7) 18 := ⟨by decide +kernel, by decide, by decide⟩
theorem D87_14 : decode (mB 87) 14 = .ok (.iconst 1, 1) := by decide +kernel
theorem D87_15 : BR 87 15 (.goto 4) (4) 19 := ⟨by decide +kernel, by decide, by decide⟩
theorem Pa_isWorld_e (d : Nat) (a0 : Nat) (x1 : Int32) (m : eM) (h_a0 : kd a0 = 4) : Pa_isWorld d a0 x1 m = if x1 < 0 then (yI (0 : Int32) m) else (if ((1 : Int32) <<< ((gI m a0 0) &&& 31)) ≤ x1 then (yI (0 : Int32) m) else (yI (1 : Int32) m)) := by
  unfold Pa_isWorld
  refine (x_iload1 D87_0 rfl).trans ?_
  refine (x_iflt D87_1).trans (i_c ?_ ?_)
  · refine (x_iconst D87_18 (k := 0) (by decide)).trans ?_
    exact (x_bret D87_19 M87.2.2.1).trans yB0
  · refine (x_iload1 D87_4 rfl).trans ?_
    refine (x_iconst D87_5 (k := 1) (by decide)).trans ?_
    refine (x_aload1 D87_6 rfl).trans ?_
    refine ((x_getI D87_7).trans (gd_t h_a0)).trans ?_
    refine (x_ishl D87_10).trans ?_
    refine (x_cge D87_11).trans (i_c ?_ ?_)
    · refine (x_iconst D87_18 (k := 0) (by decide)).trans ?_
      exact (x_bret D87_19 M87.2.2.1).trans yB0
    · refine (x_iconst D87_14 (k := 1) (by decide)).trans ?_
      refine (x_goto D87_15).trans ?_
      exact (x_bret D87_19 M87.2.2.1).trans yB1
theorem D89_0 : decode (mB 89) 0 = .ok (.aload_n 0, 1) := by decide +kernel
theorem D89_1 : decode (mB 89) 1 = .ok (.iload_n 1, 1) := by decide +kernel
theorem D89_2 : CS 89 2 59 0 := ⟨.invokevirtual 184, by decide +kernel, by decide +kernel, by decide +kernel, by decide⟩
theorem D89_5 : BR 89 5 (.ifCond .eq 20) (20) 25 := ⟨by decide +kernel, by decide, by decide⟩
theorem D89_25 : decode (mB 89) 25 = .ok (.iconst 0, 1) := by decide +kernel
theorem D89_26 : decode (mB 89) 26 = .ok (.ireturn, 1) := by decide +kernel
theorem D89_8 : decode (mB 89) 8 = .ok (.iload_n 1, 1) := by decide +kernel
theorem D89_9 : BR 89 9 (.ifCond .eq 12) (12) 21 := ⟨by decide +kernel, by decide, by decide⟩
theorem D89_21 : decode (mB 89) 21 = .ok (.iconst 1, 1) := by decide +kernel
theorem D89_22 : BR 89 22 (.goto 4) (4) 26 := ⟨by decide +kernel, by decide, by decide⟩
theorem D89_12 : decode (mB 89) 12 = .ok (.aload_n 0, 1) := by decide +kernel
theorem D89_13 : GF 89 13 4 12 2 := ⟨37, true, by decide +kernel, by decide +kernel⟩
theorem D89_16 : decode (mB 89) 16 = .ok (.iload_n 1, 1) := by decide +kernel
theorem D89_17 : decode (mB 89) 17 = .ok (.baload, 1) := by decide +kernel
theorem D89_18 : BR 89 18 (.ifCond .eq 7) (7) 25 := ⟨by decide +kernel, by decide, by decide⟩
theorem Pa_isThere_e (d : Nat) (a0 : Nat) (x1 : Int32) (m : eM) (h_a0 : kd a0 = 4) : Pa_isThere (d + 1) a0 x1 m = bI (Pa_isCock d a0 x1 m) fun v2 m1 => if v2 = 0 then (yI (0 : Int32) m1) else (if x1 = 0 then (yI (1 : Int32) m1) else (bR (gR m1 a0 12) fun r3 => ga m1 r3 23 x1 (if (gI m1 r3 x1.toNatClampNeg) = 0 then (yI (0 : Int32) m1) else (yI (1 : Int32) m1)))) := by
  unfold Pa_isThere
  refine (x_aload1 D89_0 rfl).trans ?_
  refine (x_iload1 D89_1 rfl).trans ?_
  refine (x_cI D89_2 M59 (fun z => by cases z) (I59 _ _) rfl rfl (ok_i M59 (I59 _ _) rfl rfl h_a0)).trans (bI_c fun v2 m1 => ?_)
  refine (x_ifeq D89_5).trans (i_c ?_ ?_)
  · refine (x_iconst D89_25 (k := 0) (by decide)).trans ?_
    exact (x_bret D89_26 M89.2.2.1).trans yB0
  · refine (x_iload1 D89_8 rfl).trans ?_
    refine (x_ifeq D89_9).trans (i_c ?_ ?_)
    · refine (x_iconst D89_21 (k := 1) (by decide)).trans ?_
      refine (x_goto D89_22).trans ?_
      exact (x_bret D89_26 M89.2.2.1).trans yB1
    · refine (x_aload1 D89_12 rfl).trans ?_
      refine ((x_getR D89_13).trans (gd_t h_a0)).trans (bR_c fun r3 => ?_)
      refine (x_iload1 D89_16 rfl).trans ?_
      refine (x_baload D89_17).trans (ga_c ?_)
      refine (x_ifeq D89_18).trans (i_c ?_ ?_)
      · refine (x_iconst D89_25 (k := 0) (by decide)).trans ?_
        exact (x_bret D89_26 M89.2.2.1).trans yB0
      · refine (x_iconst D89_21 (k := 1) (by decide)).trans ?_
        refine (x_goto D89_22).trans ?_
        exact (x_bret D89_26 M89.2.2.1).trans yB1
theorem D95_0 : decode (mB 95) 0 = .ok (.aload_n 0, 1) := by decide +kernel
theorem D95_1 : GF 95 1 4 15 1 := ⟨47, false, by decide +kernel, by decide +kernel⟩
theorem D95_4 : decode (mB 95) 4 = .ok (.lreturn, 1) := by decide +kernel
theorem Pa_commonWorlds_e (d : Nat) (a0 : Nat) (m : eM) (h_a0 : kd a0 = 4) : Pa_commonWorlds d a0 m = yL (gL m a0 15) m := by
  unfold Pa_commonWorlds
  refine (x_aload1 D95_0 rfl).trans ?_
  refine ((x_getL D95_1).trans (gd_t h_a0)).trans ?_
  exact x_lret D95_4 M95.2.2.1
theorem D103_0 : decode (mB 103) 0 = .ok (.aload_n 0, 1) := by decide +kernel
theorem D103_1 : decode (mB 103) 1 = .ok (.iload_n 1, 1) := by decide +kernel
theorem D103_2 : CS 103 2 59 0 := ⟨.invokevirtual 184, by decide +kernel, by decide +kernel, by decide +kernel, by decide⟩
theorem D103_5 : BR 103 5 (.ifCond .eq 12) (12) 17 := ⟨by decide +kernel, by decide, by decide⟩
theorem D103_17 : decode (mB 103) 17 = .ok (.iconst 0, 1) := by decide +kernel
theorem D103_18 : decode (mB 103) 18 = .ok (.ireturn, 1) := by decide +kernel
theorem D103_8 : decode (mB 103) 8 = .ok (.aload_n 0, 1) := by decide +kernel
theorem D103_9 : GF 103 9 4 14 2 := ⟨44, true, by decide +kernel, by decide +kernel⟩
theorem D103_12 : decode (mB 103) 12 = .ok (.iload_n 1, 1) := by decide +kernel
theorem D103_13 : decode (mB 103) 13 = .ok (.iaload, 1) := by decide +kernel
theorem D103_14 : BR 103 14 (.goto 4) (4) 18 := ⟨by decide +kernel, by decide, by decide⟩
theorem Pa_late_e (d : Nat) (a0 : Nat) (x1 : Int32) (m : eM) (h_a0 : kd a0 = 4) : Pa_late (d + 1) a0 x1 m = bI (Pa_isCock d a0 x1 m) fun v2 m1 => if v2 = 0 then (yI (0 : Int32) m1) else (bR (gR m1 a0 14) fun r3 => ga m1 r3 20 x1 (yI (gI m1 r3 x1.toNatClampNeg) m1)) := by
  unfold Pa_late
  refine (x_aload1 D103_0 rfl).trans ?_
  refine (x_iload1 D103_1 rfl).trans ?_
  refine (x_cI D103_2 M59 (fun z => by cases z) (I59 _ _) rfl rfl (ok_i M59 (I59 _ _) rfl rfl h_a0)).trans (bI_c fun v2 m1 => ?_)
  refine (x_ifeq D103_5).trans (i_c ?_ ?_)
  · refine (x_iconst D103_17 (k := 0) (by decide)).trans ?_
    exact x_iret D103_18 M103.2.2.1
  · refine (x_aload1 D103_8 rfl).trans ?_
    refine ((x_getR D103_9).trans (gd_t h_a0)).trans (bR_c fun r3 => ?_)
    refine (x_iload1 D103_12 rfl).trans ?_
    refine (x_iaload D103_13).trans (ga_c ?_)
    refine (x_goto D103_14).trans ?_
    exact x_iret D103_18 M103.2.2.1
theorem D104_0 : decode (mB 104) 0 = .ok (.aload_n 0, 1) := by decide +kernel
theorem D104_1 : decode (mB 104) 1 = .ok (.iload_n 1, 1) := by decide +kernel
theorem D104_2 : CS 104 2 59 0 := ⟨.invokevirtual 184, by decide +kernel, by decide +kernel, by decide +kernel, by decide⟩
theorem D104_5 : BR 104 5 (.ifCond .eq 12) (12) 17 := ⟨by decide +kernel, by decide, by decide⟩
theorem D104_17 : decode (mB 104) 17 = .ok (.iconst 0, 1) := by decide +kernel
theorem D104_18 : decode (mB 104) 18 = .ok (.ireturn, 1) := by decide +kernel
theorem D104_8 : decode (mB 104) 8 = .ok (.aload_n 0, 1) := by decide +kernel
theorem D104_9 : GF 104 9 4 13 2 := ⟨41, true, by decide +kernel, by decide +kernel⟩
theorem D104_12 : decode (mB 104) 12 = .ok (.iload_n 1, 1) := by decide +kernel
theorem D104_13 : decode (mB 104) 13 = .ok (.iaload, 1) := by decide +kernel
theorem D104_14 : BR 104 14 (.goto 4) (4) 18 := ⟨by decide +kernel, by decide, by decide⟩
theorem Pa_law_e (d : Nat) (a0 : Nat) (x1 : Int32) (m : eM) (h_a0 : kd a0 = 4) : Pa_law (d + 1) a0 x1 m = bI (Pa_isCock d a0 x1 m) fun v2 m1 => if v2 = 0 then (yI (0 : Int32) m1) else (bR (gR m1 a0 13) fun r3 => ga m1 r3 20 x1 (yI (gI m1 r3 x1.toNatClampNeg) m1)) := by
  unfold Pa_law
  refine (x_aload1 D104_0 rfl).trans ?_
  refine (x_iload1 D104_1 rfl).trans ?_
  refine (x_cI D104_2 M59 (fun z => by cases z) (I59 _ _) rfl rfl (ok_i M59 (I59 _ _) rfl rfl h_a0)).trans (bI_c fun v2 m1 => ?_)
  refine (x_ifeq D104_5).trans (i_c ?_ ?_)
  · refine (x_iconst D104_17 (k := 0) (by decide)).trans ?_
    exact x_iret D104_18 M104.2.2.1
  · refine (x_aload1 D104_8 rfl).trans ?_
    refine ((x_getR D104_9).trans (gd_t h_a0)).trans (bR_c fun r3 => ?_)
    refine (x_iload1 D104_12 rfl).trans ?_
    refine (x_iaload D104_13).trans (ga_c ?_)
    refine (x_goto D104_14).trans ?_
    exact x_iret D104_18 M104.2.2.1
theorem D109_0 : decode (mB 109) 0 = .ok (.iload_n 1, 1) := by decide +kernel
theorem D109_1 : BR 109 1 (.ifCond .lt 29) (29) 30 := ⟨by decide +kernel, by decide, by decide⟩
theorem D109_30 : decode (mB 109) 30 = .ok (.iconst 0, 1) := by decide +kernel
theorem D109_31 : decode (mB 109) 31 = .ok (.ireturn, 1) := by decide +kernel
theorem D109_4 : decode (mB 109) 4 = .ok (.iload_n 1, 1) := by decide +kernel
theorem D109_5 : decode (mB 109) 5 = .ok (.aload_n 0, 1) := by decide +kernel
theorem D109_6 : GF 109 6 4 2 0 := ⟨141, false, by decide +kernel, by decide +kernel⟩
theorem D109_9 : BR 109 9 (.if_icmp .ge 21) (21) 30 := ⟨by decide +kernel, by decide, by decide⟩
theorem D109_12 : decode (mB 109) 12 = .ok (.iload_n 1, 1) := by decide +kernel
theorem D109_13 : decode (mB 109) 13 = .ok (.aload_n 0, 1) := by decide +kernel
theorem D109_14 : GF 109 14 4 10 2 := ⟨31, true, by decide +kernel, by decide +kernel⟩
theorem D109_17 : decode (mB 109) 17 = .ok (.arraylength, 1) := by decide +kernel
theorem D109_18 : BR 109 18 (.if_icmp .ge 12) (12) 30 := ⟨by decide +kernel, by decide, by decide⟩
theorem D109_21 : decode (mB 109) 21 = .ok (.aload_n 0, 1) := by decide +kernel
theorem D109_22 : GF 109 22 4 10 2 := ⟨31, true, by decide +kernel, by decide +kernel⟩
theorem D109_25 : decode (mB 109) 25 = .ok (.iload_n 1, 1) := by decide +kernel
theorem D109_26 : decode (mB 109) 26 = .ok (.iaload, 1) := by decide +kernel
theorem D109_27 : BR 109 27 (.goto 4) (4) 31 := ⟨by decide +kernel, by decide, by decide⟩
theorem Pa_bearing_e (d : Nat) (a0 : Nat) (x1 : Int32) (m : eM) (h_a0 : kd a0 = 4) : Pa_bearing d a0 x1 m = if x1 < 0 then (yI (0 : Int32) m) else (if (gI m a0 2) ≤ x1 then (yI (0 : Int32) m) else (bR (gR m a0 10) fun r1 => gl r1 (if ((aln m r1).toInt32) ≤ x1 then (yI (0 : Int32) m) else (bR (gR m a0 10) fun r2 => ga m r2 20 x1 (yI (gI m r2 x1.toNatClampNeg) m))))) := by
  unfold Pa_bearing
  refine (x_iload1 D109_0 rfl).trans ?_
  refine (x_iflt D109_1).trans (i_c ?_ ?_)
  · refine (x_iconst D109_30 (k := 0) (by decide)).trans ?_
    exact x_iret D109_31 M109.2.2.1
  · refine (x_iload1 D109_4 rfl).trans ?_
    refine (x_aload1 D109_5 rfl).trans ?_
    refine ((x_getI D109_6).trans (gd_t h_a0)).trans ?_
    refine (x_cge D109_9).trans (i_c ?_ ?_)
    · refine (x_iconst D109_30 (k := 0) (by decide)).trans ?_
      exact x_iret D109_31 M109.2.2.1
    · refine (x_iload1 D109_12 rfl).trans ?_
      refine (x_aload1 D109_13 rfl).trans ?_
      refine ((x_getR D109_14).trans (gd_t h_a0)).trans (bR_c fun r1 => ?_)
      refine (x_alen D109_17).trans (gl_c ?_)
      refine (x_cge D109_18).trans (i_c ?_ ?_)
      · refine (x_iconst D109_30 (k := 0) (by decide)).trans ?_
        exact x_iret D109_31 M109.2.2.1
      · refine (x_aload1 D109_21 rfl).trans ?_
        refine ((x_getR D109_22).trans (gd_t h_a0)).trans (bR_c fun r2 => ?_)
        refine (x_iload1 D109_25 rfl).trans ?_
        refine (x_iaload D109_26).trans (ga_c ?_)
        refine (x_goto D109_27).trans ?_
        exact x_iret D109_31 M109.2.2.1
theorem D120_0 : decode (mB 120) 0 = .ok (.iload_n 1, 1) := by decide +kernel
theorem D120_1 : BR 120 1 (.ifCond .lt 15) (15) 16 := ⟨by decide +kernel, by decide, by decide⟩
theorem D120_16 : decode (mB 120) 16 = .ok (.iconst 0, 1) := by decide +kernel
theorem D120_17 : decode (mB 120) 17 = .ok (.ireturn, 1) := by decide +kernel
theorem D120_4 : decode (mB 120) 4 = .ok (.iload_n 1, 1) := by decide +kernel
theorem D120_5 : decode (mB 120) 5 = .ok (.aload_n 0, 1) := by decide +kernel
theorem D120_6 : GF 120 6 4 0 0 := ⟨109, false, by decide +kernel, by decide +kernel⟩
theorem D120_9 : BR 120 9 (.if_icmp .ge 7) (7) 16 := ⟨by decide +kernel, by decide, by decide⟩
theorem D120_12 : decode (mB 120) 12 = .ok (.iconst 1, 1) := by decide +kernel
theorem D120_13 : BR 120 13 (.goto 4) (4) 17 := ⟨by decide +kernel, by decide, by decide⟩
theorem Pa_isFact_e (d : Nat) (a0 : Nat) (x1 : Int32) (m : eM) (h_a0 : kd a0 = 4) : Pa_isFact d a0 x1 m = if x1 < 0 then (yI (0 : Int32) m) else (if (gI m a0 0) ≤ x1 then (yI (0 : Int32) m) else (yI (1 : Int32) m)) := by
  unfold Pa_isFact
  refine (x_iload1 D120_0 rfl).trans ?_
  refine (x_iflt D120_1).trans (i_c ?_ ?_)
  · refine (x_iconst D120_16 (k := 0) (by decide)).trans ?_
    exact (x_bret D120_17 M120.2.2.1).trans yB0
  · refine (x_iload1 D120_4 rfl).trans ?_
    refine (x_aload1 D120_5 rfl).trans ?_
    refine ((x_getI D120_6).trans (gd_t h_a0)).trans ?_
    refine (x_cge D120_9).trans (i_c ?_ ?_)
    · refine (x_iconst D120_16 (k := 0) (by decide)).trans ?_
      exact (x_bret D120_17 M120.2.2.1).trans yB0
    · refine (x_iconst D120_12 (k := 1) (by decide)).trans ?_
      refine (x_goto D120_13).trans ?_
      exact (x_bret D120_17 M120.2.2.1).trans yB1
theorem D126_0 : decode (mB 126) 0 = .ok (.lconst 0, 1) := by decide +kernel
theorem D126_1 : decode (mB 126) 1 = .ok (.lstore_n 3, 1) := by decide +kernel
theorem D126_2 : decode (mB 126) 2 = .ok (.iconst 0, 1) := by decide +kernel
theorem D126_3 : decode (mB 126) 3 = .ok (.istore 5, 2) := by decide +kernel
theorem D126_5 : decode (mB 126) 5 = .ok (.iload 5, 2) := by decide +kernel
theorem D126_7 : decode (mB 126) 7 = .ok (.iconst 1, 1) := by decide +kernel
theorem D126_8 : decode (mB 126) 8 = .ok (.aload_n 0, 1) := by decide +kernel
theorem D126_9 : GF 126 9 4 0 0 := ⟨109, false, by decide +kernel, by decide +kernel⟩
theorem D126_12 : decode (mB 126) 12 = .ok (.ishl, 1) := by decide +kernel
theorem D126_13 : BR 126 13 (.if_icmp .ge 27) (27) 40 := ⟨by decide +kernel, by decide, by decide⟩
theorem D126_40 : decode (mB 126) 40 = .ok (.lload_n 3, 1) := by decide +kernel
theorem D126_41 : decode (mB 126) 41 = .ok (.lreturn, 1) := by decide +kernel
theorem D126_16 : decode (mB 126) 16 = .ok (.lload_n 1, 1) := by decide +kernel
theorem D126_17 : decode (mB 126) 17 = .ok (.iload 5, 2) := by decide +kernel
theorem D126_19 : CS 126 19 96 2 := ⟨.invokestatic 218, by decide +kernel, by decide +kernel, by decide +kernel, by decide⟩
theorem D126_22 : BR 126 22 (.ifCond .eq 12) (12) 34 := ⟨by decide +kernel, by decide, by decide⟩
theorem D126_34 : decode (mB 126) 34 = .ok (.iinc 5 1, 3) := by decide +kernel
theorem D126_37 : BR 126 37 (.goto (-32)) (-32) 5 := ⟨by decide +kernel, by decide, by decide⟩
theorem D126_25 : decode (mB 126) 25 = .ok (.lload_n 3, 1) := by decide +kernel
theorem D126_26 : decode (mB 126) 26 = .ok (.aload_n 0, 1) := by decide +kernel
theorem D126_27 : decode (mB 126) 27 = .ok (.iload 5, 2) := by decide +kernel
theorem D126_29 : CS 126 29 127 0 := ⟨.invokevirtual 222, by decide +kernel, by decide +kernel, by decide +kernel, by decide⟩
theorem D126_32 : decode (mB 126) 32 = .ok (.ladd, 1) := by decide +kernel
theorem D126_33 : decode (mB 126) 33 = .ok (.lstore_n 3, 1) := by decide +kernel
theorem Pa_weight_e (d : Nat) (a0 : Nat) (y1 : Int64) (m : eM) (h_a0 : kd a0 = 4) : Pa_weight (d + 1) a0 y1 m = Pa_weight_5 (d + 1) a0 y1 (0 : Int64) (0 : Int32) m := by
  unfold Pa_weight
  refine (x_lconst0 D126_0).trans ?_
  refine (x_lstore1 D126_1 (ls' := [.ref a0, .long y1, eU, .long (0 : Int64), eU, eU]) rfl rfl).trans ?_
  refine (x_iconst D126_2 (k := 0) (by decide)).trans ?_
  refine (x_istore2 D126_3 (ls' := [.ref a0, .long y1, eU, .long (0 : Int64), eU, .int (0 : Int32)]) rfl rfl).trans ?_
  rfl
theorem Pa_weight_5_e (d : Nat) (a0 : Nat) (y1 : Int64) (y3 : Int64) (x5 : Int32) (m : eM) (h_a0 : kd a0 = 4) : Pa_weight_5 (d + 1) a0 y1 y3 x5 m = if ((1 : Int32) <<< ((gI m a0 0) &&& 31)) ≤ x5 then (yL y3 m) else (bI (LC_holds d y1 x5 m) fun v2 m1 => if v2 = 0 then (Pa_weight_5 (d + 1) a0 y1 y3 (x5 + (1 : Int32)) m1) else (bL (Pa_weightOf d a0 x5 m1) fun v4 m3 => Pa_weight_5 (d + 1) a0 y1 (y3 + v4) (x5 + (1 : Int32)) m3)) := by
  unfold Pa_weight_5
  refine (x_iload2 D126_5 rfl).trans ?_
  refine (x_iconst D126_7 (k := 1) (by decide)).trans ?_
  refine (x_aload1 D126_8 rfl).trans ?_
  refine ((x_getI D126_9).trans (gd_t h_a0)).trans ?_
  refine (x_ishl D126_12).trans ?_
  refine (x_cge D126_13).trans (i_c ?_ ?_)
  · refine (x_lload1 D126_40 rfl).trans ?_
    exact x_lret D126_41 M126.2.2.1
  · refine (x_lload1 D126_16 rfl).trans ?_
    refine (x_iload2 D126_17 rfl).trans ?_
    refine (x_cI D126_19 M96 (fun z => by cases z) (I96 _ _) rfl rfl (ok_s M96 (I96 _ _) rfl rfl)).trans (bI_c fun v2 m1 => ?_)
    refine (x_ifeq D126_22).trans (i_c ?_ ?_)
    · refine (x_iinc D126_34 rfl (k := 1) (by decide) (ls' := [.ref a0, .long y1, eU, .long y3, eU, .int (x5 + (1 : Int32))]) rfl).trans ?_
      refine (x_goto D126_37).trans ?_
      rfl
    · refine (x_lload1 D126_25 rfl).trans ?_
      refine (x_aload1 D126_26 rfl).trans ?_
      refine (x_iload2 D126_27 rfl).trans ?_
      refine (x_cL D126_29 M127  (I127 _ _) rfl rfl (ok_i M127 (I127 _ _) rfl rfl h_a0)).trans (bL_c fun v4 m3 => ?_)
      refine (x_ladd D126_32).trans ?_
      refine (x_lstore1 D126_33 (ls' := [.ref a0, .long y1, eU, .long (y3 + v4), eU, .int x5]) rfl rfl).trans ?_
      refine (x_iinc D126_34 rfl (k := 1) (by decide) (ls' := [.ref a0, .long y1, eU, .long (y3 + v4), eU, .int (x5 + (1 : Int32))]) rfl).trans ?_
      refine (x_goto D126_37).trans ?_
      rfl
theorem D127_0 : decode (mB 127) 0 = .ok (.lconst 1, 1) := by decide +kernel
theorem D127_1 : decode (mB 127) 1 = .ok (.lstore_n 2, 1) := by decide +kernel
theorem D127_2 : decode (mB 127) 2 = .ok (.iconst 0, 1) := by decide +kernel
theorem D127_3 : decode (mB 127) 3 = .ok (.istore 4, 2) := by decide +kernel
theorem D127_5 : decode (mB 127) 5 = .ok (.iload 4, 2) := by decide +kernel
theorem D127_7 : decode (mB 127) 7 = .ok (.aload_n 0, 1) := by decide +kernel
theorem D127_8 : GF 127 8 4 0 0 := ⟨109, false, by decide +kernel, by decide +kernel⟩
theorem D127_11 : BR 127 11 (.if_icmp .ge 54) (54) 65 := ⟨by decide +kernel, by decide, by decide⟩
theorem D127_65 : decode (mB 127) 65 = .ok (.lload_n 2, 1) := by decide +kernel
theorem D127_66 : decode (mB 127) 66 = .ok (.lreturn, 1) := by decide +kernel
theorem D127_14 : decode (mB 127) 14 = .ok (.iload 4, 2) := by decide +kernel
theorem D127_16 : decode (mB 127) 16 = .ok (.aload_n 0, 1) := by decide +kernel
theorem D127_17 : GF 127 17 4 5 2 := ⟨15, true, by decide +kernel, by decide +kernel⟩
theorem D127_20 : decode (mB 127) 20 = .ok (.arraylength, 1) := by decide +kernel
theorem D127_21 : BR 127 21 (.if_icmp .ge 44) (44) 65 := ⟨by decide +kernel, by decide, by decide⟩
theorem D127_24 : decode (mB 127) 24 = .ok (.lload_n 2, 1) := by decide +kernel
theorem D127_25 : decode (mB 127) 25 = .ok (.iload_n 1, 1) := by decide +kernel
theorem D127_26 : decode (mB 127) 26 = .ok (.iload 4, 2) := by decide +kernel
theorem D127_28 : decode (mB 127) 28 = .ok (.ishr, 1) := by decide +kernel
theorem D127_29 : decode (mB 127) 29 = .ok (.iconst 1, 1) := by decide +kernel
theorem D127_30 : decode (mB 127) 30 = .ok (.iand, 1) := by decide +kernel
theorem D127_31 : decode (mB 127) 31 = .ok (.iconst 1, 1) := by decide +kernel
theorem D127_32 : BR 127 32 (.if_icmp .ne 14) (14) 46 := ⟨by decide +kernel, by decide, by decide⟩
theorem D127_46 : decode (mB 127) 46 = .ok (.bipush 10, 2) := by decide +kernel
theorem D127_48 : decode (mB 127) 48 = .ok (.aload_n 0, 1) := by decide +kernel
theorem D127_49 : GF 127 49 4 5 2 := ⟨15, true, by decide +kernel, by decide +kernel⟩
theorem D127_52 : decode (mB 127) 52 = .ok (.iload 4, 2) := by decide +kernel
theorem D127_54 : decode (mB 127) 54 = .ok (.iaload, 1) := by decide +kernel
theorem D127_55 : decode (mB 127) 55 = .ok (.isub, 1) := by decide +kernel
theorem D127_56 : decode (mB 127) 56 = .ok (.i2l, 1) := by decide +kernel
theorem D127_57 : decode (mB 127) 57 = .ok (.lmul, 1) := by decide +kernel
theorem D127_58 : decode (mB 127) 58 = .ok (.lstore_n 2, 1) := by decide +kernel
theorem D127_59 : decode (mB 127) 59 = .ok (.iinc 4 1, 3) := by decide +kernel
theorem D127_62 : BR 127 62 (.goto (-57)) (-57) 5 := ⟨by decide +kernel, by decide, by decide⟩
theorem D127_35 : decode (mB 127) 35 = .ok (.aload_n 0, 1) := by decide +kernel
theorem D127_36 : GF 127 36 4 5 2 := ⟨15, true, by decide +kernel, by decide +kernel⟩
theorem D127_39 : decode (mB 127) 39 = .ok (.iload 4, 2) := by decide +kernel
theorem D127_41 : decode (mB 127) 41 = .ok (.iaload, 1) := by decide +kernel
theorem D127_42 : decode (mB 127) 42 = .ok (.i2l, 1) := by decide +kernel
theorem D127_43 : BR 127 43 (.goto 14) (14) 57 := ⟨by decide +kernel, by decide, by decide⟩
theorem Pa_weightOf_e (d : Nat) (a0 : Nat) (x1 : Int32) (m : eM) (h_a0 : kd a0 = 4) : Pa_weightOf d a0 x1 m = Pa_weightOf_5 d a0 x1 (1 : Int64) (0 : Int32) m := by
  unfold Pa_weightOf
  refine (x_lconst1 D127_0).trans ?_
  refine (x_lstore1 D127_1 (ls' := [.ref a0, .int x1, .long (1 : Int64), eU, eU]) rfl rfl).trans ?_
  refine (x_iconst D127_2 (k := 0) (by decide)).trans ?_
  refine (x_istore2 D127_3 (ls' := [.ref a0, .int x1, .long (1 : Int64), eU, .int (0 : Int32)]) rfl rfl).trans ?_
  rfl
theorem Pa_weightOf_5_e (d : Nat) (a0 : Nat) (x1 : Int32) (y2 : Int64) (x4 : Int32) (m : eM) (h_a0 : kd a0 = 4) : Pa_weightOf_5 d a0 x1 y2 x4 m = if (gI m a0 0) ≤ x4 then (yL y2 m) else (bR (gR m a0 5) fun r1 => gl r1 (if ((aln m r1).toInt32) ≤ x4 then (yL y2 m) else (if ¬ ((x1 >>> (x4 &&& 31)) &&& (1 : Int32)) = (1 : Int32) then (bR (gR m a0 5) fun r2 => ga m r2 20 x4 (lL (y2 * (((10 : Int32) - (gI m r2 x4.toNatClampNeg)).toInt64)) fun v3 => Pa_weightOf_5 d a0 x1 v3 (x4 + (1 : Int32)) m)) else (bR (gR m a0 5) fun r4 => ga m r4 20 x4 (lL (y2 * ((gI m r4 x4.toNatClampNeg).toInt64)) fun v5 => Pa_weightOf_5 d a0 x1 v5 (x4 + (1 : Int32)) m))))) := by
  unfold Pa_weightOf_5
  refine (x_iload2 D127_5 rfl).trans ?_
  refine (x_aload1 D127_7 rfl).trans ?_
  refine ((x_getI D127_8).trans (gd_t h_a0)).trans ?_
  refine (x_cge D127_11).trans (i_c ?_ ?_)
  · refine (x_lload1 D127_65 rfl).trans ?_
    exact x_lret D127_66 M127.2.2.1
  · refine (x_iload2 D127_14 rfl).trans ?_
    refine (x_aload1 D127_16 rfl).trans ?_
    refine ((x_getR D127_17).trans (gd_t h_a0)).trans (bR_c fun r1 => ?_)
    refine (x_alen D127_20).trans (gl_c ?_)
    refine (x_cge D127_21).trans (i_c ?_ ?_)
    · refine (x_lload1 D127_65 rfl).trans ?_
      exact x_lret D127_66 M127.2.2.1
    · refine (x_lload1 D127_24 rfl).trans ?_
      refine (x_iload1 D127_25 rfl).trans ?_
      refine (x_iload2 D127_26 rfl).trans ?_
      refine (x_ishr D127_28).trans ?_
      refine (x_iconst D127_29 (k := 1) (by decide)).trans ?_
      refine (x_iand D127_30).trans ?_
      refine (x_iconst D127_31 (k := 1) (by decide)).trans ?_
      refine (x_cne D127_32).trans (i_c ?_ ?_)
      · refine (x_bipush D127_46 (k := 10) (by decide)).trans ?_
        refine (x_aload1 D127_48 rfl).trans ?_
        refine ((x_getR D127_49).trans (gd_t h_a0)).trans (bR_c fun r2 => ?_)
        refine (x_iload2 D127_52 rfl).trans ?_
        refine (x_iaload D127_54).trans (ga_c ?_)
        refine (x_isub D127_55).trans ?_
        refine (x_i2l D127_56).trans ?_
        refine (x_lmul D127_57).trans ?_
        refine (x_lstore1 D127_58 (ls' := [.ref a0, .int x1, .long (y2 * (((10 : Int32) - (gI m r2 x4.toNatClampNeg)).toInt64)), eU, .int x4]) rfl rfl).trans ?_
        refine lL_i (fun v3 => X d 127 59 [.ref a0, .int x1, .long v3, eU, .int x4] [] m) _ ?_ _
        intro v3
        refine (x_iinc D127_59 rfl (k := 1) (by decide) (ls' := [.ref a0, .int x1, .long v3, eU, .int (x4 + (1 : Int32))]) rfl).trans ?_
        refine (x_goto D127_62).trans ?_
        rfl
      · refine (x_aload1 D127_35 rfl).trans ?_
        refine ((x_getR D127_36).trans (gd_t h_a0)).trans (bR_c fun r4 => ?_)
        refine (x_iload2 D127_39 rfl).trans ?_
        refine (x_iaload D127_41).trans (ga_c ?_)
        refine (x_i2l D127_42).trans ?_
        refine (x_goto D127_43).trans ?_
        refine (x_lmul D127_57).trans ?_
        refine (x_lstore1 D127_58 (ls' := [.ref a0, .int x1, .long (y2 * ((gI m r4 x4.toNatClampNeg).toInt64)), eU, .int x4]) rfl rfl).trans ?_
        refine lL_i (fun v5 => X d 127 59 [.ref a0, .int x1, .long v5, eU, .int x4] [] m) _ ?_ _
        intro v5
        refine (x_iinc D127_59 rfl (k := 1) (by decide) (ls' := [.ref a0, .int x1, .long v5, eU, .int (x4 + (1 : Int32))]) rfl).trans ?_
        refine (x_goto D127_62).trans ?_
        rfl
theorem D145_0 : decode (mB 145) 0 = .ok (.aload_n 0, 1) := by decide +kernel
theorem D145_1 : CS 145 1 81 0 := ⟨.invokevirtual 200, by decide +kernel, by decide +kernel, by decide +kernel, by decide⟩
theorem D145_4 : decode (mB 145) 4 = .ok (.lstore_n 3, 1) := by decide +kernel
theorem D145_5 : decode (mB 145) 5 = .ok (.iconst 0, 1) := by decide +kernel
theorem D145_6 : decode (mB 145) 6 = .ok (.istore 5, 2) := by decide +kernel
theorem D145_8 : decode (mB 145) 8 = .ok (.iload 5, 2) := by decide +kernel
theorem D145_10 : decode (mB 145) 10 = .ok (.aload_n 0, 1) := by decide +kernel
theorem D145_11 : GF 145 11 4 0 0 := ⟨109, false, by decide +kernel, by decide +kernel⟩
theorem D145_14 : BR 145 14 (.if_icmp .ge 43) (43) 57 := ⟨by decide +kernel, by decide, by decide⟩
theorem D145_57 : decode (mB 145) 57 = .ok (.lload_n 3, 1) := by decide +kernel
theorem D145_58 : decode (mB 145) 58 = .ok (.lreturn, 1) := by decide +kernel
theorem D145_17 : decode (mB 145) 17 = .ok (.iload_n 1, 1) := by decide +kernel
theorem D145_18 : decode (mB 145) 18 = .ok (.iload 5, 2) := by decide +kernel
theorem D145_20 : decode (mB 145) 20 = .ok (.ishr, 1) := by decide +kernel
theorem D145_21 : decode (mB 145) 21 = .ok (.iconst 1, 1) := by decide +kernel
theorem D145_22 : decode (mB 145) 22 = .ok (.iand, 1) := by decide +kernel
theorem D145_23 : decode (mB 145) 23 = .ok (.iconst 1, 1) := by decide +kernel
theorem D145_24 : BR 145 24 (.if_icmp .ne 27) (27) 51 := ⟨by decide +kernel, by decide, by decide⟩
theorem D145_51 : decode (mB 145) 51 = .ok (.iinc 5 1, 3) := by decide +kernel
theorem D145_54 : BR 145 54 (.goto (-46)) (-46) 8 := ⟨by decide +kernel, by decide, by decide⟩
theorem D145_27 : decode (mB 145) 27 = .ok (.lload_n 3, 1) := by decide +kernel
theorem D145_28 : decode (mB 145) 28 = .ok (.aload_n 0, 1) := by decide +kernel
theorem D145_29 : decode (mB 145) 29 = .ok (.iload 5, 2) := by decide +kernel
theorem D145_31 : decode (mB 145) 31 = .ok (.iload_n 2, 1) := by decide +kernel
theorem D145_32 : decode (mB 145) 32 = .ok (.iload 5, 2) := by decide +kernel
theorem D145_34 : decode (mB 145) 34 = .ok (.ishr, 1) := by decide +kernel
theorem D145_35 : decode (mB 145) 35 = .ok (.iconst 1, 1) := by decide +kernel
theorem D145_36 : decode (mB 145) 36 = .ok (.iand, 1) := by decide +kernel
theorem D145_37 : decode (mB 145) 37 = .ok (.iconst 1, 1) := by decide +kernel
theorem D145_38 : BR 145 38 (.if_icmp .ne 7) (7) 45 := ⟨by decide +kernel, by decide, by decide⟩
theorem D145_45 : decode (mB 145) 45 = .ok (.iconst 0, 1) := by decide +kernel
theorem D145_46 : CS 145 46 146 0 := ⟨.invokevirtual 206, by decide +kernel, by decide +kernel, by decide +kernel, by decide⟩
theorem D145_49 : decode (mB 145) 49 = .ok (.land, 1) := by decide +kernel
theorem D145_50 : decode (mB 145) 50 = .ok (.lstore_n 3, 1) := by decide +kernel
theorem D145_41 : decode (mB 145) 41 = .ok (.iconst 1, 1) := by decide +kernel
theorem D145_42 : BR 145 42 (.goto 4) (4) 46 := ⟨by decide +kernel, by decide, by decide⟩
theorem Pa_alike_e (d : Nat) (a0 : Nat) (x1 : Int32) (x2 : Int32) (m : eM) (h_a0 : kd a0 = 4) : Pa_alike (d + 1) a0 x1 x2 m = bL (Pa_allWorlds d a0 m) fun v2 m1 => Pa_alike_8 (d + 1) a0 x1 x2 v2 (0 : Int32) m1 := by
  unfold Pa_alike
  refine (x_aload1 D145_0 rfl).trans ?_
  refine (x_cL D145_1 M81  (I81 _) rfl rfl (ok_i M81 (I81 _) rfl rfl h_a0)).trans (bL_c fun v2 m1 => ?_)
  refine (x_lstore1 D145_4 (ls' := [.ref a0, .int x1, .int x2, .long v2, eU, eU]) rfl rfl).trans ?_
  refine (x_iconst D145_5 (k := 0) (by decide)).trans ?_
  refine (x_istore2 D145_6 (ls' := [.ref a0, .int x1, .int x2, .long v2, eU, .int (0 : Int32)]) rfl rfl).trans ?_
  rfl
theorem Pa_alike_8_e (d : Nat) (a0 : Nat) (x1 : Int32) (x2 : Int32) (y3 : Int64) (x5 : Int32) (m : eM) (h_a0 : kd a0 = 4) : Pa_alike_8 (d + 1) a0 x1 x2 y3 x5 m = if (gI m a0 0) ≤ x5 then (yL y3 m) else (if ¬ ((x1 >>> (x5 &&& 31)) &&& (1 : Int32)) = (1 : Int32) then (Pa_alike_8 (d + 1) a0 x1 x2 y3 (x5 + (1 : Int32)) m) else (if ¬ ((x2 >>> (x5 &&& 31)) &&& (1 : Int32)) = (1 : Int32) then (bL (Pa_factIs d a0 x5 (0 : Int32) m) fun v2 m1 => Pa_alike_8 (d + 1) a0 x1 x2 (y3 &&& v2) (x5 + (1 : Int32)) m1) else (bL (Pa_factIs d a0 x5 (1 : Int32) m) fun v4 m3 => Pa_alike_8 (d + 1) a0 x1 x2 (y3 &&& v4) (x5 + (1 : Int32)) m3))) := by
  unfold Pa_alike_8
  refine (x_iload2 D145_8 rfl).trans ?_
  refine (x_aload1 D145_10 rfl).trans ?_
  refine ((x_getI D145_11).trans (gd_t h_a0)).trans ?_
  refine (x_cge D145_14).trans (i_c ?_ ?_)
  · refine (x_lload1 D145_57 rfl).trans ?_
    exact x_lret D145_58 M145.2.2.1
  · refine (x_iload1 D145_17 rfl).trans ?_
    refine (x_iload2 D145_18 rfl).trans ?_
    refine (x_ishr D145_20).trans ?_
    refine (x_iconst D145_21 (k := 1) (by decide)).trans ?_
    refine (x_iand D145_22).trans ?_
    refine (x_iconst D145_23 (k := 1) (by decide)).trans ?_
    refine (x_cne D145_24).trans (i_c ?_ ?_)
    · refine (x_iinc D145_51 rfl (k := 1) (by decide) (ls' := [.ref a0, .int x1, .int x2, .long y3, eU, .int (x5 + (1 : Int32))]) rfl).trans ?_
      refine (x_goto D145_54).trans ?_
      rfl
    · refine (x_lload1 D145_27 rfl).trans ?_
      refine (x_aload1 D145_28 rfl).trans ?_
      refine (x_iload2 D145_29 rfl).trans ?_
      refine (x_iload1 D145_31 rfl).trans ?_
      refine (x_iload2 D145_32 rfl).trans ?_
      refine (x_ishr D145_34).trans ?_
      refine (x_iconst D145_35 (k := 1) (by decide)).trans ?_
      refine (x_iand D145_36).trans ?_
      refine (x_iconst D145_37 (k := 1) (by decide)).trans ?_
      refine (x_cne D145_38).trans (i_c ?_ ?_)
      · refine (x_iconst D145_45 (k := 0) (by decide)).trans ?_
        refine (x_cL D145_46 M146  (I146 _ _ _) rfl rfl (ok_i M146 (I146 _ _ _) rfl rfl h_a0)).trans (bL_c fun v2 m1 => ?_)
        refine (x_land D145_49).trans ?_
        refine (x_lstore1 D145_50 (ls' := [.ref a0, .int x1, .int x2, .long (y3 &&& v2), eU, .int x5]) rfl rfl).trans ?_
        refine (x_iinc D145_51 rfl (k := 1) (by decide) (ls' := [.ref a0, .int x1, .int x2, .long (y3 &&& v2), eU, .int (x5 + (1 : Int32))]) rfl).trans ?_
        refine (x_goto D145_54).trans ?_
        rfl
      · refine (x_iconst D145_41 (k := 1) (by decide)).trans ?_
        refine (x_goto D145_42).trans ?_
        refine (x_cL D145_46 M146  (I146 _ _ _) rfl rfl (ok_i M146 (I146 _ _ _) rfl rfl h_a0)).trans (bL_c fun v4 m3 => ?_)
        refine (x_land D145_49).trans ?_
        refine (x_lstore1 D145_50 (ls' := [.ref a0, .int x1, .int x2, .long (y3 &&& v4), eU, .int x5]) rfl rfl).trans ?_
        refine (x_iinc D145_51 rfl (k := 1) (by decide) (ls' := [.ref a0, .int x1, .int x2, .long (y3 &&& v4), eU, .int (x5 + (1 : Int32))]) rfl).trans ?_
        refine (x_goto D145_54).trans ?_
        rfl
theorem D146_0 : decode (mB 146) 0 = .ok (.aload_n 0, 1) := by decide +kernel
theorem D146_1 : CS 146 1 81 0 := ⟨.invokevirtual 200, by decide +kernel, by decide +kernel, by decide +kernel, by decide⟩
theorem D146_4 : decode (mB 146) 4 = .ok (.iload_n 2, 1) := by decide +kernel
theorem D146_5 : BR 146 5 (.ifCond .eq 10) (10) 15 := ⟨by decide +kernel, by decide, by decide⟩
theorem D146_15 : decode (mB 146) 15 = .ok (.iload_n 1, 1) := by decide +kernel
theorem D146_16 : CS 146 16 84 2 := ⟨.invokestatic 203, by decide +kernel, by decide +kernel, by decide +kernel, by decide⟩
theorem R146_19 : lRes (mC 146) 198 = some (-1) := by decide +kernel
theorem D146_19 : decode (mB 146) 19 = .ok (.ldc2_w 198, 3) := by decide +kernel
theorem D146_22 : decode (mB 146) 22 = .ok (.lxor, 1) := by decide +kernel
theorem D146_23 : decode (mB 146) 23 = .ok (.land, 1) := by decide +kernel
theorem D146_24 : decode (mB 146) 24 = .ok (.lreturn, 1) := by decide +kernel
theorem D146_8 : decode (mB 146) 8 = .ok (.iload_n 1, 1) := by decide +kernel
theorem D146_9 : CS 146 9 84 2 := ⟨.invokestatic 203, by decide +kernel, by decide +kernel, by decide +kernel, by decide⟩
theorem D146_12 : BR 146 12 (.goto 11) (11) 23 := ⟨by decide +kernel, by decide, by decide⟩
theorem Pa_factIs_e (d : Nat) (a0 : Nat) (x1 : Int32) (x2 : Int32) (m : eM) (h_a0 : kd a0 = 4) : Pa_factIs (d + 1) a0 x1 x2 m = bL (Pa_allWorlds d a0 m) fun v2 m1 => if x2 = 0 then (bL (LC_factSo d x1 m1) fun v4 m3 => yL (v2 &&& (v4 ^^^ (-1 : Int64))) m3) else (bL (LC_factSo d x1 m1) fun v6 m5 => yL (v2 &&& v6) m5) := by
  unfold Pa_factIs
  refine (x_aload1 D146_0 rfl).trans ?_
  refine (x_cL D146_1 M81  (I81 _) rfl rfl (ok_i M81 (I81 _) rfl rfl h_a0)).trans (bL_c fun v2 m1 => ?_)
  refine (x_iload1 D146_4 rfl).trans ?_
  refine (x_ifeq D146_5).trans (i_c ?_ ?_)
  · refine (x_iload1 D146_15 rfl).trans ?_
    refine (x_cL D146_16 M84  (I84 _) rfl rfl (ok_s M84 (I84 _) rfl rfl)).trans (bL_c fun v4 m3 => ?_)
    refine (x_ldc2 D146_19 R146_19).trans ?_
    refine (x_lxor D146_22).trans ?_
    refine (x_land D146_23).trans ?_
    exact x_lret D146_24 M146.2.2.1
  · refine (x_iload1 D146_8 rfl).trans ?_
    refine (x_cL D146_9 M84  (I84 _) rfl rfl (ok_s M84 (I84 _) rfl rfl)).trans (bL_c fun v6 m5 => ?_)
    refine (x_goto D146_12).trans ?_
    refine (x_land D146_23).trans ?_
    exact x_lret D146_24 M146.2.2.1
theorem D178_0 : decode (mB 178) 0 = .ok (.aload_n 0, 1) := by decide +kernel
theorem D178_1 : GF 178 1 4 2 0 := ⟨141, false, by decide +kernel, by decide +kernel⟩
theorem D178_4 : decode (mB 178) 4 = .ok (.ireturn, 1) := by decide +kernel
theorem Pa_people_e (d : Nat) (a0 : Nat) (m : eM) (h_a0 : kd a0 = 4) : Pa_people d a0 m = yI (gI m a0 2) m := by
  unfold Pa_people
  refine (x_aload1 D178_0 rfl).trans ?_
  refine ((x_getI D178_1).trans (gd_t h_a0)).trans ?_
  exact x_iret D178_4 M178.2.2.1
theorem D189_0 : decode (mB 189) 0 = .ok (.iconst 0, 1) := by decide +kernel
theorem D189_1 : decode (mB 189) 1 = .ok (.istore_n 3, 1) := by decide +kernel
theorem D189_2 : decode (mB 189) 2 = .ok (.iconst 0, 1) := by decide +kernel
theorem D189_3 : decode (mB 189) 3 = .ok (.istore 4, 2) := by decide +kernel
theorem D189_5 : decode (mB 189) 5 = .ok (.iload 4, 2) := by decide +kernel
theorem D189_7 : decode (mB 189) 7 = .ok (.aload_n 0, 1) := by decide +kernel
theorem D189_8 : GF 189 8 4 2 0 := ⟨141, false, by decide +kernel, by decide +kernel⟩
theorem D189_11 : BR 189 11 (.if_icmp .ge 79) (79) 90 := ⟨by decide +kernel, by decide, by decide⟩
theorem D189_90 : decode (mB 189) 90 = .ok (.iload_n 3, 1) := by decide +kernel
theorem D189_91 : decode (mB 189) 91 = .ok (.ireturn, 1) := by decide +kernel
theorem D189_14 : decode (mB 189) 14 = .ok (.iconst 0, 1) := by decide +kernel
theorem D189_15 : decode (mB 189) 15 = .ok (.istore 5, 2) := by decide +kernel
theorem D189_17 : decode (mB 189) 17 = .ok (.iload 5, 2) := by decide +kernel
theorem D189_19 : decode (mB 189) 19 = .ok (.aload_n 0, 1) := by decide +kernel
theorem D189_20 : GF 189 20 4 2 0 := ⟨141, false, by decide +kernel, by decide +kernel⟩
theorem D189_23 : BR 189 23 (.if_icmp .ge 61) (61) 84 := ⟨by decide +kernel, by decide, by decide⟩
theorem D189_84 : decode (mB 189) 84 = .ok (.iinc 4 1, 3) := by decide +kernel
theorem D189_87 : BR 189 87 (.goto (-82)) (-82) 5 := ⟨by decide +kernel, by decide, by decide⟩
theorem D189_26 : decode (mB 189) 26 = .ok (.aload_n 0, 1) := by decide +kernel
theorem D189_27 : decode (mB 189) 27 = .ok (.iload 4, 2) := by decide +kernel
theorem D189_29 : CS 189 29 109 0 := ⟨.invokevirtual 233, by decide +kernel, by decide +kernel, by decide +kernel, by decide⟩
theorem D189_32 : decode (mB 189) 32 = .ok (.aload_n 0, 1) := by decide +kernel
theorem D189_33 : decode (mB 189) 33 = .ok (.iload 5, 2) := by decide +kernel
theorem D189_35 : CS 189 35 109 0 := ⟨.invokevirtual 233, by decide +kernel, by decide +kernel, by decide +kernel, by decide⟩
theorem D189_38 : CS 189 38 172 2 := ⟨.invokestatic 236, by decide +kernel, by decide +kernel, by decide +kernel, by decide⟩
theorem D189_41 : decode (mB 189) 41 = .ok (.iload_n 2, 1) := by decide +kernel
theorem D189_42 : BR 189 42 (.if_icmp .gt 7) (7) 49 := ⟨by decide +kernel, by decide, by decide⟩
theorem D189_49 : decode (mB 189) 49 = .ok (.iconst 0, 1) := by decide +kernel
theorem D189_45 : decode (mB 189) 45 = .ok (.iconst 1, 1) := by decide +kernel
theorem D189_46 : BR 189 46 (.goto 4) (4) 50 := ⟨by decide +kernel, by decide, by decide⟩
theorem D189_50 : decode (mB 189) 50 = .ok (.istore 6, 2) := by decide +kernel
theorem D189_52 : decode (mB 189) 52 = .ok (.iload_n 3, 1) := by decide +kernel
theorem D189_53 : decode (mB 189) 53 = .ok (.iload 6, 2) := by decide +kernel
theorem D189_55 : BR 189 55 (.ifCond .eq 20) (20) 75 := ⟨by decide +kernel, by decide, by decide⟩
theorem D189_75 : decode (mB 189) 75 = .ok (.iconst 0, 1) := by decide +kernel
theorem D189_76 : decode (mB 189) 76 = .ok (.ior, 1) := by decide +kernel
theorem D189_77 : decode (mB 189) 77 = .ok (.istore_n 3, 1) := by decide +kernel
theorem D189_78 : decode (mB 189) 78 = .ok (.iinc 5 1, 3) := by decide +kernel
theorem D189_81 : BR 189 81 (.goto (-64)) (-64) 17 := ⟨by decide +kernel, by decide, by decide⟩
theorem D189_58 : decode (mB 189) 58 = .ok (.iload_n 1, 1) := by decide +kernel
theorem D189_59 : decode (mB 189) 59 = .ok (.iload 5, 2) := by decide +kernel
theorem D189_61 : decode (mB 189) 61 = .ok (.ishr, 1) := by decide +kernel
theorem D189_62 : decode (mB 189) 62 = .ok (.iconst 1, 1) := by decide +kernel
theorem D189_63 : decode (mB 189) 63 = .ok (.iand, 1) := by decide +kernel
theorem D189_64 : decode (mB 189) 64 = .ok (.iconst 1, 1) := by decide +kernel
theorem D189_65 : BR 189 65 (.if_icmp .ne 10) (10) 75 := ⟨by decide +kernel, by decide, by decide⟩
theorem D189_68 : decode (mB 189) 68 = .ok (.iconst 1, 1) := by decide +kernel
theorem D189_69 : decode (mB 189) 69 = .ok (.iload 4, 2) := by decide +kernel
theorem D189_71 : decode (mB 189) 71 = .ok (.ishl, 1) := by decide +kernel
theorem D189_72 : BR 189 72 (.goto 4) (4) 76 := ⟨by decide +kernel, by decide, by decide⟩
theorem Pa_near_e (d : Nat) (a0 : Nat) (x1 : Int32) (x2 : Int32) (m : eM) (h_a0 : kd a0 = 4) : Pa_near (d + 1) a0 x1 x2 m = Pa_near_5 (d + 1) a0 x1 x2 (0 : Int32) (0 : Int32) eU eU m := by
  unfold Pa_near
  refine (x_iconst D189_0 (k := 0) (by decide)).trans ?_
  refine (x_istore1 D189_1 (ls' := [.ref a0, .int x1, .int x2, .int (0 : Int32), eU, eU, eU]) rfl rfl).trans ?_
  refine (x_iconst D189_2 (k := 0) (by decide)).trans ?_
  refine (x_istore2 D189_3 (ls' := [.ref a0, .int x1, .int x2, .int (0 : Int32), .int (0 : Int32), eU, eU]) rfl rfl).trans ?_
  rfl
theorem Pa_near_5_e (d : Nat) (a0 : Nat) (x1 : Int32) (x2 : Int32) (x3 : Int32) (x4 : Int32) (w5 : Value) (w6 : Value) (m : eM) (h_a0 : kd a0 = 4) : Pa_near_5 (d + 1) a0 x1 x2 x3 x4 w5 w6 m = if (gI m a0 2) ≤ x4 then (yI x3 m) else (Pa_near_17 (d + 1) a0 x1 x2 x3 x4 (0 : Int32) w6 m) := by
  unfold Pa_near_5
  refine (x_iload2 D189_5 rfl).trans ?_
  refine (x_aload1 D189_7 rfl).trans ?_
  refine ((x_getI D189_8).trans (gd_t h_a0)).trans ?_
  refine (x_cge D189_11).trans (i_c ?_ ?_)
  · refine (x_iload1 D189_90 rfl).trans ?_
    exact x_iret D189_91 M189.2.2.1
  · refine (x_iconst D189_14 (k := 0) (by decide)).trans ?_
    refine (x_istore2 D189_15 (ls' := [.ref a0, .int x1, .int x2, .int x3, .int x4, .int (0 : Int32), w6]) rfl rfl).trans ?_
    rfl
theorem Pa_near_17_e (d : Nat) (a0 : Nat) (x1 : Int32) (x2 : Int32) (x3 : Int32) (x4 : Int32) (x5 : Int32) (w6 : Value) (m : eM) (h_a0 : kd a0 = 4) : Pa_near_17 (d + 1) a0 x1 x2 x3 x4 x5 w6 m = if (gI m a0 2) ≤ x5 then (Pa_near_5 (d + 1) a0 x1 x2 x3 (x4 + (1 : Int32)) (.int x5) w6 m) else (bI (Pa_bearing d a0 x4 m) fun v2 m1 => bI (Pa_bearing d a0 x5 m1) fun v4 m3 => bI (LC_shorterWay d v2 v4 m3) fun v6 m5 => if x2 < v6 then (Pa_near_50 (d + 1) a0 x1 x2 x3 x4 x5 w6 (0 : Int32) m5) else (Pa_near_50 (d + 1) a0 x1 x2 x3 x4 x5 w6 (1 : Int32) m5)) := by
  unfold Pa_near_17
  refine (x_iload2 D189_17 rfl).trans ?_
  refine (x_aload1 D189_19 rfl).trans ?_
  refine ((x_getI D189_20).trans (gd_t h_a0)).trans ?_
  refine (x_cge D189_23).trans (i_c ?_ ?_)
  · refine (x_iinc D189_84 rfl (k := 1) (by decide) (ls' := [.ref a0, .int x1, .int x2, .int x3, .int (x4 + (1 : Int32)), .int x5, w6]) rfl).trans ?_
    refine (x_goto D189_87).trans ?_
    rfl
  · refine (x_aload1 D189_26 rfl).trans ?_
    refine (x_iload2 D189_27 rfl).trans ?_
    refine (x_cI D189_29 M109 (fun z => by cases z) (I109 _ _) rfl rfl (ok_i M109 (I109 _ _) rfl rfl h_a0)).trans (bI_c fun v2 m1 => ?_)
    refine (x_aload1 D189_32 rfl).trans ?_
    refine (x_iload2 D189_33 rfl).trans ?_
    refine (x_cI D189_35 M109 (fun z => by cases z) (I109 _ _) rfl rfl (ok_i M109 (I109 _ _) rfl rfl h_a0)).trans (bI_c fun v4 m3 => ?_)
    refine (x_cI D189_38 M172 (fun z => by cases z) (I172 _ _) rfl rfl (ok_s M172 (I172 _ _) rfl rfl)).trans (bI_c fun v6 m5 => ?_)
    refine (x_iload1 D189_41 rfl).trans ?_
    refine (x_cgt D189_42).trans (i_c ?_ ?_)
    · refine (x_iconst D189_49 (k := 0) (by decide)).trans ?_
      rfl
    · refine (x_iconst D189_45 (k := 1) (by decide)).trans ?_
      refine (x_goto D189_46).trans ?_
      rfl
theorem Pa_near_50_e (d : Nat) (a0 : Nat) (x1 : Int32) (x2 : Int32) (x3 : Int32) (x4 : Int32) (x5 : Int32) (w6 : Value) (p0 : Int32) (m : eM) (h_a0 : kd a0 = 4) : Pa_near_50 (d + 1) a0 x1 x2 x3 x4 x5 w6 p0 m = if p0 = 0 then (Pa_near_17 (d + 1) a0 x1 x2 (x3 ||| (0 : Int32)) x4 (x5 + (1 : Int32)) (.int p0) m) else (if ¬ ((x1 >>> (x5 &&& 31)) &&& (1 : Int32)) = (1 : Int32) then (Pa_near_17 (d + 1) a0 x1 x2 (x3 ||| (0 : Int32)) x4 (x5 + (1 : Int32)) (.int p0) m) else (Pa_near_17 (d + 1) a0 x1 x2 (x3 ||| ((1 : Int32) <<< (x4 &&& 31))) x4 (x5 + (1 : Int32)) (.int p0) m)) := by
  unfold Pa_near_50
  refine (x_istore2 D189_50 (ls' := [.ref a0, .int x1, .int x2, .int x3, .int x4, .int x5, .int p0]) rfl rfl).trans ?_
  refine (x_iload1 D189_52 rfl).trans ?_
  refine (x_iload2 D189_53 rfl).trans ?_
  refine (x_ifeq D189_55).trans (i_c ?_ ?_)
  · refine (x_iconst D189_75 (k := 0) (by decide)).trans ?_
    refine (x_ior D189_76).trans ?_
    refine (x_istore1 D189_77 (ls' := [.ref a0, .int x1, .int x2, .int (x3 ||| (0 : Int32)), .int x4, .int x5, .int p0]) rfl rfl).trans ?_
    refine (x_iinc D189_78 rfl (k := 1) (by decide) (ls' := [.ref a0, .int x1, .int x2, .int (x3 ||| (0 : Int32)), .int x4, .int (x5 + (1 : Int32)), .int p0]) rfl).trans ?_
    refine (x_goto D189_81).trans ?_
    rfl
  · refine (x_iload1 D189_58 rfl).trans ?_
    refine (x_iload2 D189_59 rfl).trans ?_
    refine (x_ishr D189_61).trans ?_
    refine (x_iconst D189_62 (k := 1) (by decide)).trans ?_
    refine (x_iand D189_63).trans ?_
    refine (x_iconst D189_64 (k := 1) (by decide)).trans ?_
    refine (x_cne D189_65).trans (i_c ?_ ?_)
    · refine (x_iconst D189_75 (k := 0) (by decide)).trans ?_
      refine (x_ior D189_76).trans ?_
      refine (x_istore1 D189_77 (ls' := [.ref a0, .int x1, .int x2, .int (x3 ||| (0 : Int32)), .int x4, .int x5, .int p0]) rfl rfl).trans ?_
      refine (x_iinc D189_78 rfl (k := 1) (by decide) (ls' := [.ref a0, .int x1, .int x2, .int (x3 ||| (0 : Int32)), .int x4, .int (x5 + (1 : Int32)), .int p0]) rfl).trans ?_
      refine (x_goto D189_81).trans ?_
      rfl
    · refine (x_iconst D189_68 (k := 1) (by decide)).trans ?_
      refine (x_iload2 D189_69 rfl).trans ?_
      refine (x_ishl D189_71).trans ?_
      refine (x_goto D189_72).trans ?_
      refine (x_ior D189_76).trans ?_
      refine (x_istore1 D189_77 (ls' := [.ref a0, .int x1, .int x2, .int (x3 ||| ((1 : Int32) <<< (x4 &&& 31))), .int x4, .int x5, .int p0]) rfl rfl).trans ?_
      refine (x_iinc D189_78 rfl (k := 1) (by decide) (ls' := [.ref a0, .int x1, .int x2, .int (x3 ||| ((1 : Int32) <<< (x4 &&& 31))), .int x4, .int (x5 + (1 : Int32)), .int p0]) rfl).trans ?_
      refine (x_goto D189_81).trans ?_
      rfl
theorem D192_0 : decode (mB 192) 0 = .ok (.iconst 0, 1) := by decide +kernel
theorem D192_1 : decode (mB 192) 1 = .ok (.istore_n 3, 1) := by decide +kernel
theorem D192_2 : decode (mB 192) 2 = .ok (.iconst 0, 1) := by decide +kernel
theorem D192_3 : decode (mB 192) 3 = .ok (.istore 4, 2) := by decide +kernel
theorem D192_5 : decode (mB 192) 5 = .ok (.iload 4, 2) := by decide +kernel
theorem D192_7 : decode (mB 192) 7 = .ok (.aload_n 0, 1) := by decide +kernel
theorem D192_8 : GF 192 8 4 2 0 := ⟨141, false, by decide +kernel, by decide +kernel⟩
theorem D192_11 : BR 192 11 (.if_icmp .ge 32) (32) 43 := ⟨by decide +kernel, by decide, by decide⟩
theorem D192_43 : decode (mB 192) 43 = .ok (.aload_n 0, 1) := by decide +kernel
theorem D192_44 : GF 192 44 4 15 1 := ⟨47, false, by decide +kernel, by decide +kernel⟩
theorem D192_47 : decode (mB 192) 47 = .ok (.aload_n 0, 1) := by decide +kernel
theorem D192_48 : decode (mB 192) 48 = .ok (.iload_n 3, 1) := by decide +kernel
theorem D192_49 : decode (mB 192) 49 = .ok (.iload_n 2, 1) := by decide +kernel
theorem D192_50 : CS 192 50 145 0 := ⟨.invokevirtual 225, by decide +kernel, by decide +kernel, by decide +kernel, by decide⟩
theorem D192_53 : decode (mB 192) 53 = .ok (.land, 1) := by decide +kernel
theorem D192_54 : decode (mB 192) 54 = .ok (.lstore 4, 2) := by decide +kernel
theorem D192_56 : decode (mB 192) 56 = .ok (.iconst 0, 1) := by decide +kernel
theorem D192_57 : decode (mB 192) 57 = .ok (.istore 6, 2) := by decide +kernel
theorem D192_59 : decode (mB 192) 59 = .ok (.iconst 0, 1) := by decide +kernel
theorem D192_60 : decode (mB 192) 60 = .ok (.istore 7, 2) := by decide +kernel
theorem D192_14 : decode (mB 192) 14 = .ok (.iload_n 3, 1) := by decide +kernel
theorem D192_15 : decode (mB 192) 15 = .ok (.iload_n 1, 1) := by decide +kernel
theorem D192_16 : decode (mB 192) 16 = .ok (.iload 4, 2) := by decide +kernel
theorem D192_18 : decode (mB 192) 18 = .ok (.ishr, 1) := by decide +kernel
theorem D192_19 : decode (mB 192) 19 = .ok (.iconst 1, 1) := by decide +kernel
theorem D192_20 : decode (mB 192) 20 = .ok (.iand, 1) := by decide +kernel
theorem D192_21 : decode (mB 192) 21 = .ok (.iconst 1, 1) := by decide +kernel
theorem D192_22 : BR 192 22 (.if_icmp .ne 12) (12) 34 := ⟨by decide +kernel, by decide, by decide⟩
theorem D192_34 : decode (mB 192) 34 = .ok (.iconst 0, 1) := by decide +kernel
theorem D192_35 : decode (mB 192) 35 = .ok (.ior, 1) := by decide +kernel
theorem D192_36 : decode (mB 192) 36 = .ok (.istore_n 3, 1) := by decide +kernel
theorem D192_37 : decode (mB 192) 37 = .ok (.iinc 4 1, 3) := by decide +kernel
theorem D192_40 : BR 192 40 (.goto (-35)) (-35) 5 := ⟨by decide +kernel, by decide, by decide⟩
theorem D192_25 : decode (mB 192) 25 = .ok (.aload_n 0, 1) := by decide +kernel
theorem D192_26 : decode (mB 192) 26 = .ok (.iload 4, 2) := by decide +kernel
theorem D192_28 : CS 192 28 82 0 := ⟨.invokevirtual 210, by decide +kernel, by decide +kernel, by decide +kernel, by decide⟩
theorem D192_31 : BR 192 31 (.goto 4) (4) 35 := ⟨by decide +kernel, by decide, by decide⟩
theorem D192_62 : decode (mB 192) 62 = .ok (.iload 7, 2) := by decide +kernel
theorem D192_64 : decode (mB 192) 64 = .ok (.aload_n 0, 1) := by decide +kernel
theorem D192_65 : GF 192 65 4 0 0 := ⟨109, false, by decide +kernel, by decide +kernel⟩
theorem D192_68 : BR 192 68 (.if_icmp .ge 32) (32) 100 := ⟨by decide +kernel, by decide, by decide⟩
theorem D192_100 : decode (mB 192) 100 = .ok (.iload 6, 2) := by decide +kernel
theorem D192_102 : decode (mB 192) 102 = .ok (.ireturn, 1) := by decide +kernel
theorem D192_71 : decode (mB 192) 71 = .ok (.lload 4, 2) := by decide +kernel
theorem D192_73 : decode (mB 192) 73 = .ok (.iload 7, 2) := by decide +kernel
theorem D192_75 : CS 192 75 84 2 := ⟨.invokestatic 203, by decide +kernel, by decide +kernel, by decide +kernel, by decide⟩
theorem D192_78 : CS 192 78 122 2 := ⟨.invokestatic 229, by decide +kernel, by decide +kernel, by decide +kernel, by decide⟩
theorem D192_81 : decode (mB 192) 81 = .ok (.iconst 1, 1) := by decide +kernel
theorem D192_82 : BR 192 82 (.if_icmp .gt 12) (12) 94 := ⟨by decide +kernel, by decide, by decide⟩
theorem D192_94 : decode (mB 192) 94 = .ok (.iinc 7 1, 3) := by decide +kernel
theorem D192_97 : BR 192 97 (.goto (-35)) (-35) 62 := ⟨by decide +kernel, by decide, by decide⟩
theorem D192_85 : decode (mB 192) 85 = .ok (.iload 6, 2) := by decide +kernel
theorem D192_87 : decode (mB 192) 87 = .ok (.iconst 1, 1) := by decide +kernel
theorem D192_88 : decode (mB 192) 88 = .ok (.iload 7, 2) := by decide +kernel
theorem D192_90 : decode (mB 192) 90 = .ok (.ishl, 1) := by decide +kernel
theorem D192_91 : decode (mB 192) 91 = .ok (.ior, 1) := by decide +kernel
theorem D192_92 : decode (mB 192) 92 = .ok (.istore 6, 2) := by decide +kernel
theorem Pa_factsTold_e (d : Nat) (a0 : Nat) (x1 : Int32) (x2 : Int32) (m : eM) (h_a0 : kd a0 = 4) : Pa_factsTold (d + 1) a0 x1 x2 m = Pa_factsTold_5 (d + 1) a0 x1 x2 (0 : Int32) (0 : Int32) m := by
  unfold Pa_factsTold
  refine (x_iconst D192_0 (k := 0) (by decide)).trans ?_
  refine (x_istore1 D192_1 (ls' := [.ref a0, .int x1, .int x2, .int (0 : Int32), eU, eU, eU, eU]) rfl rfl).trans ?_
  refine (x_iconst D192_2 (k := 0) (by decide)).trans ?_
  refine (x_istore2 D192_3 (ls' := [.ref a0, .int x1, .int x2, .int (0 : Int32), .int (0 : Int32), eU, eU, eU]) rfl rfl).trans ?_
  rfl
theorem Pa_factsTold_5_e (d : Nat) (a0 : Nat) (x1 : Int32) (x2 : Int32) (x3 : Int32) (x4 : Int32) (m : eM) (h_a0 : kd a0 = 4) : Pa_factsTold_5 (d + 1) a0 x1 x2 x3 x4 m = if (gI m a0 2) ≤ x4 then (bL (Pa_alike d a0 x3 x2 m) fun v2 m1 => Pa_factsTold_62 (d + 1) a0 x1 x2 x3 ((gL m a0 15) &&& v2) (0 : Int32) (0 : Int32) m1) else (if ¬ ((x1 >>> (x4 &&& 31)) &&& (1 : Int32)) = (1 : Int32) then (Pa_factsTold_5 (d + 1) a0 x1 x2 (x3 ||| (0 : Int32)) (x4 + (1 : Int32)) m) else (bI (Pa_known d a0 x4 m) fun v4 m3 => Pa_factsTold_5 (d + 1) a0 x1 x2 (x3 ||| v4) (x4 + (1 : Int32)) m3)) := by
  unfold Pa_factsTold_5
  refine (x_iload2 D192_5 rfl).trans ?_
  refine (x_aload1 D192_7 rfl).trans ?_
  refine ((x_getI D192_8).trans (gd_t h_a0)).trans ?_
  refine (x_cge D192_11).trans (i_c ?_ ?_)
  · refine (x_aload1 D192_43 rfl).trans ?_
    refine ((x_getL D192_44).trans (gd_t h_a0)).trans ?_
    refine (x_aload1 D192_47 rfl).trans ?_
    refine (x_iload1 D192_48 rfl).trans ?_
    refine (x_iload1 D192_49 rfl).trans ?_
    refine (x_cL D192_50 M145  (I145 _ _ _) rfl rfl (ok_i M145 (I145 _ _ _) rfl rfl h_a0)).trans (bL_c fun v2 m1 => ?_)
    refine (x_land D192_53).trans ?_
    refine (x_lstore2 D192_54 (ls' := [.ref a0, .int x1, .int x2, .int x3, .long ((gL m a0 15) &&& v2), eU, eU, eU]) rfl rfl).trans ?_
    refine (x_iconst D192_56 (k := 0) (by decide)).trans ?_
    refine (x_istore2 D192_57 (ls' := [.ref a0, .int x1, .int x2, .int x3, .long ((gL m a0 15) &&& v2), eU, .int (0 : Int32), eU]) rfl rfl).trans ?_
    refine (x_iconst D192_59 (k := 0) (by decide)).trans ?_
    refine (x_istore2 D192_60 (ls' := [.ref a0, .int x1, .int x2, .int x3, .long ((gL m a0 15) &&& v2), eU, .int (0 : Int32), .int (0 : Int32)]) rfl rfl).trans ?_
    rfl
  · refine (x_iload1 D192_14 rfl).trans ?_
    refine (x_iload1 D192_15 rfl).trans ?_
    refine (x_iload2 D192_16 rfl).trans ?_
    refine (x_ishr D192_18).trans ?_
    refine (x_iconst D192_19 (k := 1) (by decide)).trans ?_
    refine (x_iand D192_20).trans ?_
    refine (x_iconst D192_21 (k := 1) (by decide)).trans ?_
    refine (x_cne D192_22).trans (i_c ?_ ?_)
    · refine (x_iconst D192_34 (k := 0) (by decide)).trans ?_
      refine (x_ior D192_35).trans ?_
      refine (x_istore1 D192_36 (ls' := [.ref a0, .int x1, .int x2, .int (x3 ||| (0 : Int32)), .int x4, eU, eU, eU]) rfl rfl).trans ?_
      refine (x_iinc D192_37 rfl (k := 1) (by decide) (ls' := [.ref a0, .int x1, .int x2, .int (x3 ||| (0 : Int32)), .int (x4 + (1 : Int32)), eU, eU, eU]) rfl).trans ?_
      refine (x_goto D192_40).trans ?_
      rfl
    · refine (x_aload1 D192_25 rfl).trans ?_
      refine (x_iload2 D192_26 rfl).trans ?_
      refine (x_cI D192_28 M82 (fun z => by cases z) (I82 _ _) rfl rfl (ok_i M82 (I82 _ _) rfl rfl h_a0)).trans (bI_c fun v4 m3 => ?_)
      refine (x_goto D192_31).trans ?_
      refine (x_ior D192_35).trans ?_
      refine (x_istore1 D192_36 (ls' := [.ref a0, .int x1, .int x2, .int (x3 ||| v4), .int x4, eU, eU, eU]) rfl rfl).trans ?_
      refine (x_iinc D192_37 rfl (k := 1) (by decide) (ls' := [.ref a0, .int x1, .int x2, .int (x3 ||| v4), .int (x4 + (1 : Int32)), eU, eU, eU]) rfl).trans ?_
      refine (x_goto D192_40).trans ?_
      rfl
theorem Pa_factsTold_62_e (d : Nat) (a0 : Nat) (x1 : Int32) (x2 : Int32) (x3 : Int32) (y4 : Int64) (x6 : Int32) (x7 : Int32) (m : eM) (h_a0 : kd a0 = 4) : Pa_factsTold_62 (d + 1) a0 x1 x2 x3 y4 x6 x7 m = if (gI m a0 0) ≤ x7 then (yI x6 m) else (bL (LC_factSo d x7 m) fun v2 m1 => bI (LC_sureness d y4 v2 m1) fun v4 m3 => if (1 : Int32) < v4 then (Pa_factsTold_62 (d + 1) a0 x1 x2 x3 y4 x6 (x7 + (1 : Int32)) m3) else (Pa_factsTold_62 (d + 1) a0 x1 x2 x3 y4 (x6 ||| ((1 : Int32) <<< (x7 &&& 31))) (x7 + (1 : Int32)) m3)) := by
  unfold Pa_factsTold_62
  refine (x_iload2 D192_62 rfl).trans ?_
  refine (x_aload1 D192_64 rfl).trans ?_
  refine ((x_getI D192_65).trans (gd_t h_a0)).trans ?_
  refine (x_cge D192_68).trans (i_c ?_ ?_)
  · refine (x_iload2 D192_100 rfl).trans ?_
    exact x_iret D192_102 M192.2.2.1
  · refine (x_lload2 D192_71 rfl).trans ?_
    refine (x_iload2 D192_73 rfl).trans ?_
    refine (x_cL D192_75 M84  (I84 _) rfl rfl (ok_s M84 (I84 _) rfl rfl)).trans (bL_c fun v2 m1 => ?_)
    refine (x_cI D192_78 M122 (fun z => by cases z) (I122 _ _) rfl rfl (ok_s M122 (I122 _ _) rfl rfl)).trans (bI_c fun v4 m3 => ?_)
    refine (x_iconst D192_81 (k := 1) (by decide)).trans ?_
    refine (x_cgt D192_82).trans (i_c ?_ ?_)
    · refine (x_iinc D192_94 rfl (k := 1) (by decide) (ls' := [.ref a0, .int x1, .int x2, .int x3, .long y4, eU, .int x6, .int (x7 + (1 : Int32))]) rfl).trans ?_
      refine (x_goto D192_97).trans ?_
      rfl
    · refine (x_iload2 D192_85 rfl).trans ?_
      refine (x_iconst D192_87 (k := 1) (by decide)).trans ?_
      refine (x_iload2 D192_88 rfl).trans ?_
      refine (x_ishl D192_90).trans ?_
      refine (x_ior D192_91).trans ?_
      refine (x_istore2 D192_92 (ls' := [.ref a0, .int x1, .int x2, .int x3, .long y4, eU, .int (x6 ||| ((1 : Int32) <<< (x7 &&& 31))), .int x7]) rfl rfl).trans ?_
      refine (x_iinc D192_94 rfl (k := 1) (by decide) (ls' := [.ref a0, .int x1, .int x2, .int x3, .long y4, eU, .int (x6 ||| ((1 : Int32) <<< (x7 &&& 31))), .int (x7 + (1 : Int32))]) rfl).trans ?_
      refine (x_goto D192_97).trans ?_
      rfl
theorem D195_0 : decode (mB 195) 0 = .ok (.aload_n 0, 1) := by decide +kernel
theorem D195_1 : decode (mB 195) 1 = .ok (.iload_n 1, 1) := by decide +kernel
theorem D195_2 : CS 195 2 68 0 := ⟨.invokevirtual 195, by decide +kernel, by decide +kernel, by decide +kernel, by decide⟩
theorem D195_5 : BR 195 5 (.ifCond .eq 21) (21) 26 := ⟨by decide +kernel, by decide, by decide⟩
theorem D195_26 : decode (mB 195) 26 = .ok (.iconst (-1), 1) := by decide +kernel
theorem D195_27 : decode (mB 195) 27 = .ok (.ireturn, 1) := by decide +kernel
theorem D195_8 : decode (mB 195) 8 = .ok (.iload_n 1, 1) := by decide +kernel
theorem D195_9 : decode (mB 195) 9 = .ok (.aload_n 0, 1) := by decide +kernel
theorem D195_10 : GF 195 10 4 9 2 := ⟨28, true, by decide +kernel, by decide +kernel⟩
theorem D195_13 : decode (mB 195) 13 = .ok (.arraylength, 1) := by decide +kernel
theorem D195_14 : BR 195 14 (.if_icmp .ge 12) (12) 26 := ⟨by decide +kernel, by decide, by decide⟩
theorem D195_17 : decode (mB 195) 17 = .ok (.aload_n 0, 1) := by decide +kernel
theorem D195_18 : GF 195 18 4 9 2 := ⟨28, true, by decide +kernel, by decide +kernel⟩
theorem D195_21 : decode (mB 195) 21 = .ok (.iload_n 1, 1) := by decide +kernel
theorem D195_22 : decode (mB 195) 22 = .ok (.iaload, 1) := by decide +kernel
theorem D195_23 : BR 195 23 (.goto 4) (4) 27 := ⟨by decide +kernel, by decide, by decide⟩
theorem Pa_home_e (d : Nat) (a0 : Nat) (x1 : Int32) (m : eM) (h_a0 : kd a0 = 4) : Pa_home (d + 1) a0 x1 m = bI (Pa_isPerson d a0 x1 m) fun v2 m1 => if v2 = 0 then (yI (-1 : Int32) m1) else (bR (gR m1 a0 9) fun r3 => gl r3 (if ((aln m1 r3).toInt32) ≤ x1 then (yI (-1 : Int32) m1) else (bR (gR m1 a0 9) fun r4 => ga m1 r4 20 x1 (yI (gI m1 r4 x1.toNatClampNeg) m1)))) := by
  unfold Pa_home
  refine (x_aload1 D195_0 rfl).trans ?_
  refine (x_iload1 D195_1 rfl).trans ?_
  refine (x_cI D195_2 M68 (fun z => by cases z) (I68 _ _) rfl rfl (ok_i M68 (I68 _ _) rfl rfl h_a0)).trans (bI_c fun v2 m1 => ?_)
  refine (x_ifeq D195_5).trans (i_c ?_ ?_)
  · refine (x_iconst D195_26 (k := -1) (by decide)).trans ?_
    exact x_iret D195_27 M195.2.2.1
  · refine (x_iload1 D195_8 rfl).trans ?_
    refine (x_aload1 D195_9 rfl).trans ?_
    refine ((x_getR D195_10).trans (gd_t h_a0)).trans (bR_c fun r3 => ?_)
    refine (x_alen D195_13).trans (gl_c ?_)
    refine (x_cge D195_14).trans (i_c ?_ ?_)
    · refine (x_iconst D195_26 (k := -1) (by decide)).trans ?_
      exact x_iret D195_27 M195.2.2.1
    · refine (x_aload1 D195_17 rfl).trans ?_
      refine ((x_getR D195_18).trans (gd_t h_a0)).trans (bR_c fun r4 => ?_)
      refine (x_iload1 D195_21 rfl).trans ?_
      refine (x_iaload D195_22).trans (ga_c ?_)
      refine (x_goto D195_23).trans ?_
      exact x_iret D195_27 M195.2.2.1
theorem D200_0 : decode (mB 200) 0 = .ok (.aload_n 0, 1) := by decide +kernel
theorem D200_1 : GF 200 1 4 1 0 := ⟨133, false, by decide +kernel, by decide +kernel⟩
theorem D200_4 : decode (mB 200) 4 = .ok (.ireturn, 1) := by decide +kernel
theorem Pa_places_e (d : Nat) (a0 : Nat) (m : eM) (h_a0 : kd a0 = 4) : Pa_places d a0 m = yI (gI m a0 1) m := by
  unfold Pa_places
  refine (x_aload1 D200_0 rfl).trans ?_
  refine ((x_getI D200_1).trans (gd_t h_a0)).trans ?_
  exact x_iret D200_4 M200.2.2.1
theorem D201_0 : decode (mB 201) 0 = .ok (.aload_n 0, 1) := by decide +kernel
theorem D201_1 : GF 201 1 4 3 0 := ⟨171, false, by decide +kernel, by decide +kernel⟩
theorem D201_4 : decode (mB 201) 4 = .ok (.ireturn, 1) := by decide +kernel
theorem Pa_commons_e (d : Nat) (a0 : Nat) (m : eM) (h_a0 : kd a0 = 4) : Pa_commons d a0 m = yI (gI m a0 3) m := by
  unfold Pa_commons
  refine (x_aload1 D201_0 rfl).trans ?_
  refine ((x_getI D201_1).trans (gd_t h_a0)).trans ?_
  exact x_iret D201_4 M201.2.2.1
