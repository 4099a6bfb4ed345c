/-! ===== equations: LiarsCock (printed by wip/whole/gen17.py) ===== -/
theorem D0_0 : decode (mB 0) 0 = .ok (.aload_n 0, 1) := by decide +kernel
theorem D0_1 : OB 0 1 := ⟨3, by decide +kernel, by decide +kernel, by decide +kernel⟩
theorem D0_4 : decode (mB 0) 4 = .ok (.aload_n 0, 1) := by decide +kernel
theorem D0_5 : NW 0 5 8 9 := ⟨9, by decide +kernel, by decide +kernel, by decide, by decide +kernel, by decide +kernel⟩
theorem D0_8 : decode (mB 0) 8 = .ok (.dup, 1) := by decide +kernel
theorem D0_9 : CS 0 9 1 1 := ⟨.invokespecial 11, by decide +kernel, by decide +kernel, by decide +kernel, by decide⟩
theorem D0_12 : PF 0 12 9 0 2 := ⟨12, true, by decide +kernel, by decide +kernel, by decide +kernel, by decide⟩
theorem D0_15 : decode (mB 0) 15 = .ok (.aload_n 0, 1) := by decide +kernel
theorem D0_16 : NW 0 16 2 4 := ⟨16, by decide +kernel, by decide +kernel, by decide, by decide +kernel, by decide +kernel⟩
theorem D0_19 : decode (mB 0) 19 = .ok (.dup, 1) := by decide +kernel
theorem D0_20 : CS 0 20 2 1 := ⟨.invokespecial 18, by decide +kernel, by decide +kernel, by decide +kernel, by decide⟩
theorem D0_23 : PF 0 23 9 1 2 := ⟨19, true, by decide +kernel, by decide +kernel, by decide +kernel, by decide⟩
theorem D0_26 : decode (mB 0) 26 = .ok (.aload_n 0, 1) := by decide +kernel
theorem D0_27 : NW 0 27 6 6 := ⟨23, by decide +kernel, by decide +kernel, by decide, by decide +kernel, by decide +kernel⟩
theorem D0_30 : decode (mB 0) 30 = .ok (.dup, 1) := by decide +kernel
theorem D0_31 : CS 0 31 3 1 := ⟨.invokespecial 25, by decide +kernel, by decide +kernel, by decide +kernel, by decide⟩
theorem D0_34 : PF 0 34 9 2 2 := ⟨26, true, by decide +kernel, by decide +kernel, by decide +kernel, by decide⟩
theorem D0_37 : decode (mB 0) 37 = .ok (.aload_n 0, 1) := by decide +kernel
theorem D0_38 : decode (mB 0) 38 = .ok (.iconst 4, 1) := by decide +kernel
theorem D0_39 : decode (mB 0) 39 = .ok (.anewarray 23, 3) := by decide +kernel
theorem R0_39 : nRes (mC 0) 23 = some 6 := by decide +kernel
theorem D0_42 : PF 0 42 9 3 2 := ⟨30, true, by decide +kernel, by decide +kernel, by decide +kernel, by decide⟩
theorem D0_45 : decode (mB 0) 45 = .ok (.aload_n 0, 1) := by decide +kernel
theorem D0_46 : decode (mB 0) 46 = .ok (.iconst 4, 1) := by decide +kernel
theorem D0_47 : decode (mB 0) 47 = .ok (.newarray .boolean, 2) := by decide +kernel
theorem D0_49 : PF 0 49 9 4 2 := ⟨34, true, by decide +kernel, by decide +kernel, by decide +kernel, by decide⟩
theorem D0_52 : decode (mB 0) 52 = .ok (.aload_n 0, 1) := by decide +kernel
theorem D0_53 : NW 0 53 0 2 := ⟨38, by decide +kernel, by decide +kernel, by decide, by decide +kernel, by decide +kernel⟩
theorem D0_56 : decode (mB 0) 56 = .ok (.dup, 1) := by decide +kernel
theorem D0_57 : CS 0 57 7 1 := ⟨.invokespecial 40, by decide +kernel, by decide +kernel, by decide +kernel, by decide⟩
theorem D0_60 : PF 0 60 9 5 2 := ⟨41, true, by decide +kernel, by decide +kernel, by decide +kernel, by decide⟩
theorem D0_63 : decode (mB 0) 63 = .ok (.aload_n 0, 1) := by decide +kernel
theorem D0_64 : NW 0 64 7 6 := ⟨45, by decide +kernel, by decide +kernel, by decide, by decide +kernel, by decide +kernel⟩
theorem D0_67 : decode (mB 0) 67 = .ok (.dup, 1) := by decide +kernel
theorem D0_68 : CS 0 68 5 1 := ⟨.invokespecial 47, by decide +kernel, by decide +kernel, by decide +kernel, by decide⟩
theorem D0_71 : PF 0 71 9 6 2 := ⟨48, true, by decide +kernel, by decide +kernel, by decide +kernel, by decide⟩
theorem D0_74 : decode (mB 0) 74 = .ok (.aload_n 0, 1) := by decide +kernel
theorem D0_75 : NW 0 75 1 3 := ⟨52, by decide +kernel, by decide +kernel, by decide, by decide +kernel, by decide +kernel⟩
theorem D0_78 : decode (mB 0) 78 = .ok (.dup, 1) := by decide +kernel
theorem D0_79 : CS 0 79 8 1 := ⟨.invokespecial 54, by decide +kernel, by decide +kernel, by decide +kernel, by decide⟩
theorem D0_82 : PF 0 82 9 7 2 := ⟨55, true, by decide +kernel, by decide +kernel, by decide +kernel, by decide⟩
theorem D0_85 : decode (mB 0) 85 = .ok (.aload_n 0, 1) := by decide +kernel
theorem D0_86 : NW 0 86 1 3 := ⟨52, by decide +kernel, by decide +kernel, by decide, by decide +kernel, by decide +kernel⟩
theorem D0_89 : decode (mB 0) 89 = .ok (.dup, 1) := by decide +kernel
theorem D0_90 : CS 0 90 8 1 := ⟨.invokespecial 54, by decide +kernel, by decide +kernel, by decide +kernel, by decide⟩
theorem D0_93 : PF 0 93 9 8 2 := ⟨59, true, by decide +kernel, by decide +kernel, by decide +kernel, by decide⟩
theorem D0_96 : decode (mB 0) 96 = .ok (.aload_n 0, 1) := by decide +kernel
theorem D0_97 : NW 0 97 5 7 := ⟨62, by decide +kernel, by decide +kernel, by decide, by decide +kernel, by decide +kernel⟩
theorem D0_100 : decode (mB 0) 100 = .ok (.dup, 1) := by decide +kernel
theorem D0_101 : CS 0 101 9 1 := ⟨.invokespecial 64, by decide +kernel, by decide +kernel, by decide +kernel, by decide⟩
theorem D0_104 : PF 0 104 9 9 2 := ⟨65, true, by decide +kernel, by decide +kernel, by decide +kernel, by decide⟩
theorem D0_107 : decode (mB 0) 107 = .ok (.aload_n 0, 1) := by decide +kernel
theorem D0_108 : decode (mB 0) 108 = .ok (.bipush 12, 2) := by decide +kernel
theorem D0_110 : decode (mB 0) 110 = .ok (.newarray .long, 2) := by decide +kernel
theorem D0_112 : PF 0 112 9 10 2 := ⟨69, true, by decide +kernel, by decide +kernel, by decide +kernel, by decide⟩
theorem D0_115 : decode (mB 0) 115 = .ok (.aload_n 0, 1) := by decide +kernel
theorem D0_116 : decode (mB 0) 116 = .ok (.sipush 4096, 3) := by decide +kernel
theorem D0_119 : decode (mB 0) 119 = .ok (.newarray .long, 2) := by decide +kernel
theorem D0_121 : PF 0 121 9 11 2 := ⟨73, true, by decide +kernel, by decide +kernel, by decide +kernel, by decide⟩
theorem D0_124 : decode (mB 0) 124 = .ok (.iconst 0, 1) := by decide +kernel
theorem D0_125 : decode (mB 0) 125 = .ok (.istore_n 1, 1) := by decide +kernel
theorem D0_126 : decode (mB 0) 126 = .ok (.iload_n 1, 1) := by decide +kernel
theorem D0_127 : decode (mB 0) 127 = .ok (.aload_n 0, 1) := by decide +kernel
theorem D0_128 : GF 0 128 9 3 2 := ⟨30, true, by decide +kernel, by decide +kernel⟩
theorem D0_131 : decode (mB 0) 131 = .ok (.arraylength, 1) := by decide +kernel
theorem D0_132 : BR 0 132 (.if_icmp .ge 22) (22) 154 := ⟨by decide +kernel, by decide, by decide⟩
theorem D0_154 : decode (mB 0) 154 = .ok (.return_, 1) := by decide +kernel
theorem D0_135 : decode (mB 0) 135 = .ok (.aload_n 0, 1) := by decide +kernel
theorem D0_136 : GF 0 136 9 3 2 := ⟨30, true, by decide +kernel, by decide +kernel⟩
theorem D0_139 : decode (mB 0) 139 = .ok (.iload_n 1, 1) := by decide +kernel
theorem D0_140 : NW 0 140 6 6 := ⟨23, by decide +kernel, by decide +kernel, by decide, by decide +kernel, by decide +kernel⟩
theorem D0_143 : decode (mB 0) 143 = .ok (.dup, 1) := by decide +kernel
theorem D0_144 : CS 0 144 3 1 := ⟨.invokespecial 25, by decide +kernel, by decide +kernel, by decide +kernel, by decide⟩
theorem D0_147 : decode (mB 0) 147 = .ok (.aastore, 1) := by decide +kernel
theorem D0_148 : decode (mB 0) 148 = .ok (.iinc 1 1, 3) := by decide +kernel
theorem D0_151 : BR 0 151 (.goto (-25)) (-25) 126 := ⟨by decide +kernel, by decide, by decide⟩
theorem LC_init_e (d : Nat) (a0 : Nat) (m : eM) (h_a0 : kd a0 = 9) : LC_init (d + 1) a0 m = nw m 9 8 fun a1 m2 => gd a1 8 (bV (Ta_init d a1 m2) fun m4 => mQ m4 a0 0 (some a1) fun m5 => nw m5 4 2 fun a6 m7 => gd a6 2 (bV (Fo_init d a6 m7) fun m9 => mQ m9 a0 1 (some a6) fun m10 => nw m10 6 6 fun a11 m12 => gd a11 6 (bV (St_init d a11 m12) fun m14 => mQ m14 a0 2 (some a11) fun m15 => nA m15 24 (4 : Int32) fun a16 m17 => mQ m17 a0 3 (some a16) fun m18 => nA m18 23 (4 : Int32) fun a19 m20 => mQ m20 a0 4 (some a19) fun m21 => nw m21 2 0 fun a22 m23 => gd a22 0 (bV (Ai_init d a22 m23) fun m25 => mQ m25 a0 5 (some a22) fun m26 => nw m26 6 7 fun a27 m28 => gd a27 7 (bV (Tk_init d a27 m28) fun m30 => mQ m30 a0 6 (some a27) fun m31 => nw m31 3 1 fun a32 m33 => gd a32 1 (bV (Co_init d a32 m33) fun m35 => mQ m35 a0 7 (some a32) fun m36 => nw m36 3 1 fun a37 m38 => gd a37 1 (bV (Co_init d a37 m38) fun m40 => mQ m40 a0 8 (some a37) fun m41 => nw m41 7 5 fun a42 m43 => gd a42 5 (bV (Se_init d a42 m43) fun m45 => mQ m45 a0 9 (some a42) fun m46 => nA m46 21 (12 : Int32) fun a47 m48 => mQ m48 a0 10 (some a47) fun m49 => nA m49 21 (4096 : Int32) fun a50 m51 => mQ m51 a0 11 (some a50) fun m52 => LC_init_126 (d + 1) a0 (0 : Int32) m52)))))))) := by
  unfold LC_init
  refine (x_aload1 D0_0 rfl).trans ?_
  refine (x_obj D0_1 rfl).trans ?_
  refine (x_aload1 D0_4 rfl).trans ?_
  refine (x_new D0_5).trans (nw_c fun a1 m2 => ?_)
  refine (x_dup1 D0_8 rfl).trans ?_
  refine (x_cg D0_9 M1 rfl rfl).trans (gd_c fun h3 => ?_)
  refine (x_cV D0_9 M1  (I1 _) rfl rfl (ok_i M1 (I1 _) rfl rfl h3)).trans (bV_c fun m4 => ?_)
  refine (x_putR D0_12 h_a0).trans ?_
  refine mQ_i (fun m5 => X (d + 1) 0 15 [.ref a0, eU] [] m5) _ ?_
  intro m5
  refine (x_aload1 D0_15 rfl).trans ?_
  refine (x_new D0_16).trans (nw_c fun a6 m7 => ?_)
  refine (x_dup1 D0_19 rfl).trans ?_
  refine (x_cg D0_20 M2 rfl rfl).trans (gd_c fun h8 => ?_)
  refine (x_cV D0_20 M2  (I2 _) rfl rfl (ok_i M2 (I2 _) rfl rfl h8)).trans (bV_c fun m9 => ?_)
  refine (x_putR D0_23 h_a0).trans ?_
  refine mQ_i (fun m10 => X (d + 1) 0 26 [.ref a0, eU] [] m10) _ ?_
  intro m10
  refine (x_aload1 D0_26 rfl).trans ?_
  refine (x_new D0_27).trans (nw_c fun a11 m12 => ?_)
  refine (x_dup1 D0_30 rfl).trans ?_
  refine (x_cg D0_31 M3 rfl rfl).trans (gd_c fun h13 => ?_)
  refine (x_cV D0_31 M3  (I3 _) rfl rfl (ok_i M3 (I3 _) rfl rfl h13)).trans (bV_c fun m14 => ?_)
  refine (x_putR D0_34 h_a0).trans ?_
  refine mQ_i (fun m15 => X (d + 1) 0 37 [.ref a0, eU] [] m15) _ ?_
  intro m15
  refine (x_aload1 D0_37 rfl).trans ?_
  refine (x_iconst D0_38 (k := 4) (by decide)).trans ?_
  refine (x_newR D0_39 R0_39).trans (nA_c fun a16 m17 => ?_)
  refine (x_putR D0_42 h_a0).trans ?_
  refine mQ_i (fun m18 => X (d + 1) 0 45 [.ref a0, eU] [] m18) _ ?_
  intro m18
  refine (x_aload1 D0_45 rfl).trans ?_
  refine (x_iconst D0_46 (k := 4) (by decide)).trans ?_
  refine (x_newB D0_47).trans (nA_c fun a19 m20 => ?_)
  refine (x_putR D0_49 h_a0).trans ?_
  refine mQ_i (fun m21 => X (d + 1) 0 52 [.ref a0, eU] [] m21) _ ?_
  intro m21
  refine (x_aload1 D0_52 rfl).trans ?_
  refine (x_new D0_53).trans (nw_c fun a22 m23 => ?_)
  refine (x_dup1 D0_56 rfl).trans ?_
  refine (x_cg D0_57 M7 rfl rfl).trans (gd_c fun h24 => ?_)
  refine (x_cV D0_57 M7  (I7 _) rfl rfl (ok_i M7 (I7 _) rfl rfl h24)).trans (bV_c fun m25 => ?_)
  refine (x_putR D0_60 h_a0).trans ?_
  refine mQ_i (fun m26 => X (d + 1) 0 63 [.ref a0, eU] [] m26) _ ?_
  intro m26
  refine (x_aload1 D0_63 rfl).trans ?_
  refine (x_new D0_64).trans (nw_c fun a27 m28 => ?_)
  refine (x_dup1 D0_67 rfl).trans ?_
  refine (x_cg D0_68 M5 rfl rfl).trans (gd_c fun h29 => ?_)
  refine (x_cV D0_68 M5  (I5 _) rfl rfl (ok_i M5 (I5 _) rfl rfl h29)).trans (bV_c fun m30 => ?_)
  refine (x_putR D0_71 h_a0).trans ?_
  refine mQ_i (fun m31 => X (d + 1) 0 74 [.ref a0, eU] [] m31) _ ?_
  intro m31
  refine (x_aload1 D0_74 rfl).trans ?_
  refine (x_new D0_75).trans (nw_c fun a32 m33 => ?_)
  refine (x_dup1 D0_78 rfl).trans ?_
  refine (x_cg D0_79 M8 rfl rfl).trans (gd_c fun h34 => ?_)
  refine (x_cV D0_79 M8  (I8 _) rfl rfl (ok_i M8 (I8 _) rfl rfl h34)).trans (bV_c fun m35 => ?_)
  refine (x_putR D0_82 h_a0).trans ?_
  refine mQ_i (fun m36 => X (d + 1) 0 85 [.ref a0, eU] [] m36) _ ?_
  intro m36
  refine (x_aload1 D0_85 rfl).trans ?_
  refine (x_new D0_86).trans (nw_c fun a37 m38 => ?_)
  refine (x_dup1 D0_89 rfl).trans ?_
  refine (x_cg D0_90 M8 rfl rfl).trans (gd_c fun h39 => ?_)
  refine (x_cV D0_90 M8  (I8 _) rfl rfl (ok_i M8 (I8 _) rfl rfl h39)).trans (bV_c fun m40 => ?_)
  refine (x_putR D0_93 h_a0).trans ?_
  refine mQ_i (fun m41 => X (d + 1) 0 96 [.ref a0, eU] [] m41) _ ?_
  intro m41
  refine (x_aload1 D0_96 rfl).trans ?_
  refine (x_new D0_97).trans (nw_c fun a42 m43 => ?_)
  refine (x_dup1 D0_100 rfl).trans ?_
  refine (x_cg D0_101 M9 rfl rfl).trans (gd_c fun h44 => ?_)
  refine (x_cV D0_101 M9  (I9 _) rfl rfl (ok_i M9 (I9 _) rfl rfl h44)).trans (bV_c fun m45 => ?_)
  refine (x_putR D0_104 h_a0).trans ?_
  refine mQ_i (fun m46 => X (d + 1) 0 107 [.ref a0, eU] [] m46) _ ?_
  intro m46
  refine (x_aload1 D0_107 rfl).trans ?_
  refine (x_bipush D0_108 (k := 12) (by decide)).trans ?_
  refine (x_newJ D0_110).trans (nA_c fun a47 m48 => ?_)
  refine (x_putR D0_112 h_a0).trans ?_
  refine mQ_i (fun m49 => X (d + 1) 0 115 [.ref a0, eU] [] m49) _ ?_
  intro m49
  refine (x_aload1 D0_115 rfl).trans ?_
  refine (x_sipush D0_116 (k := 4096) (by decide)).trans ?_
  refine (x_newJ D0_119).trans (nA_c fun a50 m51 => ?_)
  refine (x_putR D0_121 h_a0).trans ?_
  refine mQ_i (fun m52 => X (d + 1) 0 124 [.ref a0, eU] [] m52) _ ?_
  intro m52
  refine (x_iconst D0_124 (k := 0) (by decide)).trans ?_
  refine (x_istore1 D0_125 (ls' := [.ref a0, .int (0 : Int32)]) rfl rfl).trans ?_
  rfl
theorem LC_init_126_e (d : Nat) (a0 : Nat) (x1 : Int32) (m : eM) (h_a0 : kd a0 = 9) : LC_init_126 (d + 1) a0 x1 m = bR (gR m a0 3) fun r1 => gl r1 (if ((aln m r1).toInt32) ≤ x1 then (yV m) else (bR (gR m a0 3) fun r2 => nw m 6 6 fun a3 m4 => gd a3 6 (bV (St_init d a3 m4) fun m6 => gwR m6 r2 a3 x1 (mQ m6 r2 x1.toNatClampNeg (some a3) fun m7 => LC_init_126 (d + 1) a0 (x1 + (1 : Int32)) m7)))) := by
  unfold LC_init_126
  refine (x_iload1 D0_126 rfl).trans ?_
  refine (x_aload1 D0_127 rfl).trans ?_
  refine ((x_getR D0_128).trans (gd_t h_a0)).trans (bR_c fun r1 => ?_)
  refine (x_alen D0_131).trans (gl_c ?_)
  refine (x_cge D0_132).trans (i_c ?_ ?_)
  · exact x_vret D0_154 M0.2.2.1
  · refine (x_aload1 D0_135 rfl).trans ?_
    refine ((x_getR D0_136).trans (gd_t h_a0)).trans (bR_c fun r2 => ?_)
    refine (x_iload1 D0_139 rfl).trans ?_
    refine (x_new D0_140).trans (nw_c fun a3 m4 => ?_)
    refine (x_dup1 D0_143 rfl).trans ?_
    refine (x_cg D0_144 M3 rfl rfl).trans (gd_c fun h5 => ?_)
    refine (x_cV D0_144 M3  (I3 _) rfl rfl (ok_i M3 (I3 _) rfl rfl h5)).trans (bV_c fun m6 => ?_)
    refine (x_aastore D0_147).trans (gwR_c ?_)
    refine mQ_i (fun m7 => X (d + 1) 0 148 [.ref a0, .int x1] [] m7) _ ?_
    intro m7
    refine (x_iinc D0_148 rfl (k := 1) (by decide) (ls' := [.ref a0, .int (x1 + (1 : Int32))]) rfl).trans ?_
    refine (x_goto D0_151).trans ?_
    rfl
theorem D10_0 : decode (mB 10) 0 = .ok (.aload_n 0, 1) := by decide +kernel
theorem D10_1 : GF 10 1 9 0 2 := ⟨12, true, by decide +kernel, by decide +kernel⟩
theorem D10_4 : decode (mB 10) 4 = .ok (.lload_n 1, 1) := by decide +kernel
theorem D10_5 : CS 10 5 11 0 := ⟨.invokevirtual 76, by decide +kernel, by decide +kernel, by decide +kernel, by decide⟩
theorem D10_8 : decode (mB 10) 8 = .ok (.aload_n 0, 1) := by decide +kernel
theorem D10_9 : GF 10 9 9 0 2 := ⟨12, true, by decide +kernel, by decide +kernel⟩
theorem D10_12 : decode (mB 10) 12 = .ok (.lload_n 3, 1) := by decide +kernel
theorem D10_13 : CS 10 13 11 0 := ⟨.invokevirtual 76, by decide +kernel, by decide +kernel, by decide +kernel, by decide⟩
theorem D10_16 : decode (mB 10) 16 = .ok (.aload_n 0, 1) := by decide +kernel
theorem D10_17 : GF 10 17 9 0 2 := ⟨12, true, by decide +kernel, by decide +kernel⟩
theorem D10_20 : decode (mB 10) 20 = .ok (.lload 5, 2) := by decide +kernel
theorem D10_22 : CS 10 22 11 0 := ⟨.invokevirtual 76, by decide +kernel, by decide +kernel, by decide +kernel, by decide⟩
theorem D10_25 : decode (mB 10) 25 = .ok (.aload_n 0, 1) := by decide +kernel
theorem D10_26 : GF 10 26 9 0 2 := ⟨12, true, by decide +kernel, by decide +kernel⟩
theorem D10_29 : CS 10 29 12 0 := ⟨.invokevirtual 80, by decide +kernel, by decide +kernel, by decide +kernel, by decide⟩
theorem D10_32 : decode (mB 10) 32 = .ok (.ireturn, 1) := by decide +kernel
theorem LC_feed_e (d : Nat) (a0 : Nat) (y1 : Int64) (y3 : Int64) (y5 : Int64) (m : eM) (h_a0 : kd a0 = 9) : LC_feed (d + 1) a0 y1 y3 y5 m = bR (gR m a0 0) fun r1 => gd r1 8 (bV (Ta_put d r1 y1 m) fun m3 => bR (gR m3 a0 0) fun r4 => gd r4 8 (bV (Ta_put d r4 y3 m3) fun m6 => bR (gR m6 a0 0) fun r7 => gd r7 8 (bV (Ta_put d r7 y5 m6) fun m9 => bR (gR m9 a0 0) fun r10 => gd r10 8 (bI (Ta_length d r10 m9) fun v13 m12 => yI v13 m12)))) := by
  unfold LC_feed
  refine (x_aload1 D10_0 rfl).trans ?_
  refine ((x_getR D10_1).trans (gd_t h_a0)).trans (bR_c fun r1 => ?_)
  refine (x_lload1 D10_4 rfl).trans ?_
  refine (x_cg D10_5 M11 rfl rfl).trans (gd_c fun h2 => ?_)
  refine (x_cV D10_5 M11  (I11 _ _) rfl rfl (ok_i M11 (I11 _ _) rfl rfl h2)).trans (bV_c fun m3 => ?_)
  refine (x_aload1 D10_8 rfl).trans ?_
  refine ((x_getR D10_9).trans (gd_t h_a0)).trans (bR_c fun r4 => ?_)
  refine (x_lload1 D10_12 rfl).trans ?_
  refine (x_cg D10_13 M11 rfl rfl).trans (gd_c fun h5 => ?_)
  refine (x_cV D10_13 M11  (I11 _ _) rfl rfl (ok_i M11 (I11 _ _) rfl rfl h5)).trans (bV_c fun m6 => ?_)
  refine (x_aload1 D10_16 rfl).trans ?_
  refine ((x_getR D10_17).trans (gd_t h_a0)).trans (bR_c fun r7 => ?_)
  refine (x_lload2 D10_20 rfl).trans ?_
  refine (x_cg D10_22 M11 rfl rfl).trans (gd_c fun h8 => ?_)
  refine (x_cV D10_22 M11  (I11 _ _) rfl rfl (ok_i M11 (I11 _ _) rfl rfl h8)).trans (bV_c fun m9 => ?_)
  refine (x_aload1 D10_25 rfl).trans ?_
  refine ((x_getR D10_26).trans (gd_t h_a0)).trans (bR_c fun r10 => ?_)
  refine (x_cg D10_29 M12 rfl rfl).trans (gd_c fun h11 => ?_)
  refine (x_cI D10_29 M12 (fun z => by cases z) (I12 _) rfl rfl (ok_i M12 (I12 _) rfl rfl h11)).trans (bI_c fun v13 m12 => ?_)
  exact x_iret D10_32 M10.2.2.1
theorem D13_0 : NW 13 0 4 16 := ⟨84, by decide +kernel, by decide +kernel, by decide, by decide +kernel, by decide +kernel⟩
theorem D13_3 : decode (mB 13) 3 = .ok (.dup, 1) := by decide +kernel
theorem D13_4 : CS 13 4 4 1 := ⟨.invokespecial 86, by decide +kernel, by decide +kernel, by decide +kernel, by decide⟩
theorem D13_7 : decode (mB 13) 7 = .ok (.astore_n 1, 1) := by decide +kernel
theorem D13_8 : decode (mB 13) 8 = .ok (.aload_n 0, 1) := by decide +kernel
theorem D13_9 : GF 13 9 9 0 2 := ⟨12, true, by decide +kernel, by decide +kernel⟩
theorem D13_12 : CS 13 12 14 0 := ⟨.invokevirtual 87, by decide +kernel, by decide +kernel, by decide +kernel, by decide⟩
theorem D13_15 : decode (mB 13) 15 = .ok (.aload_n 1, 1) := by decide +kernel
theorem D13_16 : decode (mB 13) 16 = .ok (.aload_n 0, 1) := by decide +kernel
theorem D13_17 : GF 13 17 9 0 2 := ⟨12, true, by decide +kernel, by decide +kernel⟩
theorem D13_20 : decode (mB 13) 20 = .ok (.aload_n 0, 1) := by decide +kernel
theorem D13_21 : GF 13 21 9 1 2 := ⟨19, true, by decide +kernel, by decide +kernel⟩
theorem D13_24 : CS 13 24 20 0 := ⟨.invokevirtual 90, by decide +kernel, by decide +kernel, by decide +kernel, by decide⟩
theorem D13_27 : decode (mB 13) 27 = .ok (.istore_n 2, 1) := by decide +kernel
theorem D13_28 : decode (mB 13) 28 = .ok (.aload_n 0, 1) := by decide +kernel
theorem D13_29 : GF 13 29 9 0 2 := ⟨12, true, by decide +kernel, by decide +kernel⟩
theorem D13_32 : CS 13 32 61 0 := ⟨.invokevirtual 94, by decide +kernel, by decide +kernel, by decide +kernel, by decide⟩
theorem D13_35 : decode (mB 13) 35 = .ok (.iload_n 2, 1) := by decide +kernel
theorem D13_36 : BR 13 36 (.ifCond .eq 13) (13) 49 := ⟨by decide +kernel, by decide, by decide⟩
theorem D13_49 : decode (mB 13) 49 = .ok (.aload_n 0, 1) := by decide +kernel
theorem D13_50 : GF 13 50 9 0 2 := ⟨12, true, by decide +kernel, by decide +kernel⟩
theorem D13_53 : CS 13 53 65 0 := ⟨.invokevirtual 101, by decide +kernel, by decide +kernel, by decide +kernel, by decide⟩
theorem D13_56 : decode (mB 13) 56 = .ok (.ireturn, 1) := by decide +kernel
theorem D13_39 : decode (mB 13) 39 = .ok (.aload_n 0, 1) := by decide +kernel
theorem D13_40 : GF 13 40 9 2 2 := ⟨26, true, by decide +kernel, by decide +kernel⟩
theorem D13_43 : decode (mB 13) 43 = .ok (.aload_n 1, 1) := by decide +kernel
theorem D13_44 : CS 13 44 62 0 := ⟨.invokevirtual 97, by decide +kernel, by decide +kernel, by decide +kernel, by decide⟩
theorem D13_47 : decode (mB 13) 47 = .ok (.iconst 0, 1) := by decide +kernel
theorem D13_48 : decode (mB 13) 48 = .ok (.ireturn, 1) := by decide +kernel
theorem LC_parish_e (d : Nat) (a0 : Nat) (m : eM) (h_a0 : kd a0 = 9) : LC_parish (d + 1) a0 m = nw m 16 4 fun a1 m2 => gd a1 4 (bV (Pa_init d a1 m2) fun m4 => bR (gR m4 a0 0) fun r5 => gd r5 8 (bV (Ta_open d r5 m4) fun m7 => bR (gR m7 a0 0) fun r8 => bR (gR m7 a0 1) fun r9 => bI (Pa_read d a1 r8 r9 m7) fun v11 m10 => bR (gR m10 a0 0) fun r12 => gd r12 8 (bV (Ta_clear d r12 m10) fun m14 => if v11 = 0 then (bR (gR m14 a0 0) fun r15 => gd r15 8 (bI (Ta_fault d r15 m14) fun v18 m17 => yI v18 m17)) else (bR (gR m14 a0 2) fun r19 => gd r19 6 (bV (St_begin d r19 a1 m14) fun m21 => yI (0 : Int32) m21))))) := by
  unfold LC_parish
  refine (x_new D13_0).trans (nw_c fun a1 m2 => ?_)
  refine (x_dup1 D13_3 rfl).trans ?_
  refine (x_cg D13_4 M4 rfl rfl).trans (gd_c fun h3 => ?_)
  refine (x_cV D13_4 M4  (I4 _) rfl rfl (ok_i M4 (I4 _) rfl rfl h3)).trans (bV_c fun m4 => ?_)
  refine (x_astore1 D13_7 (ls' := [.ref a0, .ref a1, eU]) rfl rfl).trans ?_
  refine (x_aload1 D13_8 rfl).trans ?_
  refine ((x_getR D13_9).trans (gd_t h_a0)).trans (bR_c fun r5 => ?_)
  refine (x_cg D13_12 M14 rfl rfl).trans (gd_c fun h6 => ?_)
  refine (x_cV D13_12 M14  (I14 _) rfl rfl (ok_i M14 (I14 _) rfl rfl h6)).trans (bV_c fun m7 => ?_)
  refine (x_aload1 D13_15 rfl).trans ?_
  refine (x_aload1 D13_16 rfl).trans ?_
  refine ((x_getR D13_17).trans (gd_t h_a0)).trans (bR_c fun r8 => ?_)
  refine (x_aload1 D13_20 rfl).trans ?_
  refine ((x_getR D13_21).trans (gd_t h_a0)).trans (bR_c fun r9 => ?_)
  refine (x_cI D13_24 M20 (fun z => by cases z) (I20 _ _ _) rfl rfl (ok_i M20 (I20 _ _ _) rfl rfl h3)).trans (bI_c fun v11 m10 => ?_)
  refine (x_istore1 D13_27 (ls' := [.ref a0, .ref a1, .int v11]) rfl rfl).trans ?_
  refine (x_aload1 D13_28 rfl).trans ?_
  refine ((x_getR D13_29).trans (gd_t h_a0)).trans (bR_c fun r12 => ?_)
  refine (x_cg D13_32 M61 rfl rfl).trans (gd_c fun h13 => ?_)
  refine (x_cV D13_32 M61  (I61 _) rfl rfl (ok_i M61 (I61 _) rfl rfl h13)).trans (bV_c fun m14 => ?_)
  refine (x_iload1 D13_35 rfl).trans ?_
  refine (x_ifeq D13_36).trans (i_c ?_ ?_)
  · refine (x_aload1 D13_49 rfl).trans ?_
    refine ((x_getR D13_50).trans (gd_t h_a0)).trans (bR_c fun r15 => ?_)
    refine (x_cg D13_53 M65 rfl rfl).trans (gd_c fun h16 => ?_)
    refine (x_cI D13_53 M65 (fun z => by cases z) (I65 _) rfl rfl (ok_i M65 (I65 _) rfl rfl h16)).trans (bI_c fun v18 m17 => ?_)
    exact x_iret D13_56 M13.2.2.1
  · refine (x_aload1 D13_39 rfl).trans ?_
    refine ((x_getR D13_40).trans (gd_t h_a0)).trans (bR_c fun r19 => ?_)
    refine (x_aload1 D13_43 rfl).trans ?_
    refine (x_cg D13_44 M62 rfl rfl).trans (gd_c fun h20 => ?_)
    refine (x_cV D13_44 M62  (I62 _ _) rfl rfl (ok_i M62 (I62 _ _) rfl rfl h20)).trans (bV_c fun m21 => ?_)
    refine (x_iconst D13_47 (k := 0) (by decide)).trans ?_
    exact x_iret D13_48 M13.2.2.1
theorem D66_0 : decode (mB 66) 0 = .ok (.iconst (-1), 1) := by decide +kernel
theorem D66_1 : decode (mB 66) 1 = .ok (.istore_n 3, 1) := by decide +kernel
theorem D66_2 : decode (mB 66) 2 = .ok (.aload_n 0, 1) := by decide +kernel
theorem D66_3 : decode (mB 66) 3 = .ok (.iload_n 1, 1) := by decide +kernel
theorem D66_4 : decode (mB 66) 4 = .ok (.iload_n 2, 1) := by decide +kernel
theorem D66_5 : CS 66 5 67 0 := ⟨.invokevirtual 104, by decide +kernel, by decide +kernel, by decide +kernel, by decide⟩
theorem D66_8 : BR 66 8 (.ifCond .eq 46) (46) 54 := ⟨by decide +kernel, by decide, by decide⟩
theorem D66_54 : decode (mB 66) 54 = .ok (.aload_n 0, 1) := by decide +kernel
theorem D66_55 : GF 66 55 9 0 2 := ⟨12, true, by decide +kernel, by decide +kernel⟩
theorem D66_58 : CS 66 58 61 0 := ⟨.invokevirtual 94, by decide +kernel, by decide +kernel, by decide +kernel, by decide⟩
theorem D66_61 : decode (mB 66) 61 = .ok (.iload_n 3, 1) := by decide +kernel
theorem D66_62 : decode (mB 66) 62 = .ok (.ireturn, 1) := by decide +kernel
theorem D66_11 : decode (mB 66) 11 = .ok (.aload_n 0, 1) := by decide +kernel
theorem D66_12 : GF 66 12 9 2 2 := ⟨26, true, by decide +kernel, by decide +kernel⟩
theorem D66_15 : GF 66 15 6 1 2 := ⟨108, true, by decide +kernel, by decide +kernel⟩
theorem D66_18 : CS 66 18 70 0 := ⟨.invokevirtual 111, by decide +kernel, by decide +kernel, by decide +kernel, by decide⟩
theorem D66_21 : decode (mB 66) 21 = .ok (.bipush 24, 2) := by decide +kernel
theorem D66_23 : BR 66 23 (.if_icmp .ge 31) (31) 54 := ⟨by decide +kernel, by decide, by decide⟩
theorem D66_26 : decode (mB 66) 26 = .ok (.iload_n 2, 1) := by decide +kernel
theorem D66_27 : decode (mB 66) 27 = .ok (.aload_n 0, 1) := by decide +kernel
theorem D66_28 : GF 66 28 9 2 2 := ⟨26, true, by decide +kernel, by decide +kernel⟩
theorem D66_31 : GF 66 31 6 1 2 := ⟨108, true, by decide +kernel, by decide +kernel⟩
theorem D66_34 : CS 66 34 71 0 := ⟨.invokevirtual 114, by decide +kernel, by decide +kernel, by decide +kernel, by decide⟩
theorem D66_37 : BR 66 37 (.if_icmp .lt 17) (17) 54 := ⟨by decide +kernel, by decide, by decide⟩
theorem D66_40 : decode (mB 66) 40 = .ok (.aload_n 0, 1) := by decide +kernel
theorem D66_41 : decode (mB 66) 41 = .ok (.aload_n 0, 1) := by decide +kernel
theorem D66_42 : GF 66 42 9 2 2 := ⟨26, true, by decide +kernel, by decide +kernel⟩
theorem D66_45 : GF 66 45 6 1 2 := ⟨108, true, by decide +kernel, by decide +kernel⟩
theorem D66_48 : decode (mB 66) 48 = .ok (.iload_n 1, 1) := by decide +kernel
theorem D66_49 : decode (mB 66) 49 = .ok (.iload_n 2, 1) := by decide +kernel
theorem D66_50 : CS 66 50 74 0 := ⟨.invokevirtual 117, by decide +kernel, by decide +kernel, by decide +kernel, by decide⟩
theorem D66_53 : decode (mB 66) 53 = .ok (.istore_n 3, 1) := by decide +kernel
theorem LC_say_e (d : Nat) (a0 : Nat) (x1 : Int32) (x2 : Int32) (m : eM) (h_a0 : kd a0 = 9) : LC_say (d + 1) a0 x1 x2 m = bI (LC_isSpeaker d a0 x1 x2 m) fun v2 m1 => if v2 = 0 then (bR (gR m1 a0 0) fun r3 => gd r3 8 (bV (Ta_clear d r3 m1) fun m5 => yI (-1 : Int32) m5)) else (bR (gR m1 a0 2) fun r6 => gd r6 6 (bR (gR m1 r6 1) fun r8 => gd r8 7 (bI (Tk_size d r8 m1) fun v11 m10 => if (24 : Int32) ≤ v11 then (bR (gR m10 a0 0) fun r12 => gd r12 8 (bV (Ta_clear d r12 m10) fun m14 => yI (-1 : Int32) m14)) else (bR (gR m10 a0 2) fun r15 => gd r15 6 (bR (gR m10 r15 1) fun r17 => gd r17 7 (bI (Tk_lastMinute d r17 m10) fun v20 m19 => if x2 < v20 then (bR (gR m19 a0 0) fun r21 => gd r21 8 (bV (Ta_clear d r21 m19) fun m23 => yI (-1 : Int32) m23)) else (bR (gR m19 a0 2) fun r24 => gd r24 6 (bR (gR m19 r24 1) fun r26 => bI (LC_hear d a0 r26 x1 x2 m19) fun v28 m27 => bR (gR m27 a0 0) fun r29 => gd r29 8 (bV (Ta_clear d r29 m27) fun m31 => yI v28 m31))))))))) := by
  unfold LC_say
  refine (x_iconst D66_0 (k := -1) (by decide)).trans ?_
  refine (x_istore1 D66_1 (ls' := [.ref a0, .int x1, .int x2, .int (-1 : Int32)]) rfl rfl).trans ?_
  refine (x_aload1 D66_2 rfl).trans ?_
  refine (x_iload1 D66_3 rfl).trans ?_
  refine (x_iload1 D66_4 rfl).trans ?_
  refine (x_cI D66_5 M67 (fun z => by cases z) (I67 _ _ _) rfl rfl (ok_i M67 (I67 _ _ _) rfl rfl h_a0)).trans (bI_c fun v2 m1 => ?_)
  refine (x_ifeq D66_8).trans (i_c ?_ ?_)
  · refine (x_aload1 D66_54 rfl).trans ?_
    refine ((x_getR D66_55).trans (gd_t h_a0)).trans (bR_c fun r3 => ?_)
    refine (x_cg D66_58 M61 rfl rfl).trans (gd_c fun h4 => ?_)
    refine (x_cV D66_58 M61  (I61 _) rfl rfl (ok_i M61 (I61 _) rfl rfl h4)).trans (bV_c fun m5 => ?_)
    refine (x_iload1 D66_61 rfl).trans ?_
    exact x_iret D66_62 M66.2.2.1
  · refine (x_aload1 D66_11 rfl).trans ?_
    refine ((x_getR D66_12).trans (gd_t h_a0)).trans (bR_c fun r6 => ?_)
    refine (x_getR D66_15).trans (gd_c fun h7 => bR_c fun r8 => ?_)
    refine (x_cg D66_18 M70 rfl rfl).trans (gd_c fun h9 => ?_)
    refine (x_cI D66_18 M70 (fun z => by cases z) (I70 _) rfl rfl (ok_i M70 (I70 _) rfl rfl h9)).trans (bI_c fun v11 m10 => ?_)
    refine (x_bipush D66_21 (k := 24) (by decide)).trans ?_
    refine (x_cge D66_23).trans (i_c ?_ ?_)
    · refine (x_aload1 D66_54 rfl).trans ?_
      refine ((x_getR D66_55).trans (gd_t h_a0)).trans (bR_c fun r12 => ?_)
      refine (x_cg D66_58 M61 rfl rfl).trans (gd_c fun h13 => ?_)
      refine (x_cV D66_58 M61  (I61 _) rfl rfl (ok_i M61 (I61 _) rfl rfl h13)).trans (bV_c fun m14 => ?_)
      refine (x_iload1 D66_61 rfl).trans ?_
      exact x_iret D66_62 M66.2.2.1
    · refine (x_iload1 D66_26 rfl).trans ?_
      refine (x_aload1 D66_27 rfl).trans ?_
      refine ((x_getR D66_28).trans (gd_t h_a0)).trans (bR_c fun r15 => ?_)
      refine (x_getR D66_31).trans (gd_c fun h16 => bR_c fun r17 => ?_)
      refine (x_cg D66_34 M71 rfl rfl).trans (gd_c fun h18 => ?_)
      refine (x_cI D66_34 M71 (fun z => by cases z) (I71 _) rfl rfl (ok_i M71 (I71 _) rfl rfl h18)).trans (bI_c fun v20 m19 => ?_)
      refine (x_clt D66_37).trans (i_c ?_ ?_)
      · refine (x_aload1 D66_54 rfl).trans ?_
        refine ((x_getR D66_55).trans (gd_t h_a0)).trans (bR_c fun r21 => ?_)
        refine (x_cg D66_58 M61 rfl rfl).trans (gd_c fun h22 => ?_)
        refine (x_cV D66_58 M61  (I61 _) rfl rfl (ok_i M61 (I61 _) rfl rfl h22)).trans (bV_c fun m23 => ?_)
        refine (x_iload1 D66_61 rfl).trans ?_
        exact x_iret D66_62 M66.2.2.1
      · refine (x_aload1 D66_40 rfl).trans ?_
        refine (x_aload1 D66_41 rfl).trans ?_
        refine ((x_getR D66_42).trans (gd_t h_a0)).trans (bR_c fun r24 => ?_)
        refine (x_getR D66_45).trans (gd_c fun h25 => bR_c fun r26 => ?_)
        refine (x_iload1 D66_48 rfl).trans ?_
        refine (x_iload1 D66_49 rfl).trans ?_
        refine (x_cI D66_50 M74 (fun z => by cases z) (I74 _ _ _ _) rfl rfl (ok_i M74 (I74 _ _ _ _) rfl rfl h_a0)).trans (bI_c fun v28 m27 => ?_)
        refine (x_istore1 D66_53 (ls' := [.ref a0, .int x1, .int x2, .int v28]) rfl rfl).trans ?_
        refine (x_aload1 D66_54 rfl).trans ?_
        refine ((x_getR D66_55).trans (gd_t h_a0)).trans (bR_c fun r29 => ?_)
        refine (x_cg D66_58 M61 rfl rfl).trans (gd_c fun h30 => ?_)
        refine (x_cV D66_58 M61  (I61 _) rfl rfl (ok_i M61 (I61 _) rfl rfl h30)).trans (bV_c fun m31 => ?_)
        refine (x_iload1 D66_61 rfl).trans ?_
        exact x_iret D66_62 M66.2.2.1
theorem D67_0 : decode (mB 67) 0 = .ok (.aload_n 0, 1) := by decide +kernel
theorem D67_1 : GF 67 1 9 2 2 := ⟨26, true, by decide +kernel, by decide +kernel⟩
theorem D67_4 : GF 67 4 6 0 2 := ⟨124, false, by decide +kernel, by decide +kernel⟩
theorem D67_7 : decode (mB 67) 7 = .ok (.iload_n 1, 1) := by decide +kernel
theorem D67_8 : CS 67 8 68 0 := ⟨.invokevirtual 283, by decide +kernel, by decide +kernel, by decide +kernel, by decide⟩
theorem D67_11 : BR 67 11 (.ifCond .eq 14) (14) 25 := ⟨by decide +kernel, by decide, by decide⟩
theorem D67_25 : decode (mB 67) 25 = .ok (.iconst 0, 1) := by decide +kernel
theorem D67_26 : decode (mB 67) 26 = .ok (.ireturn, 1) := by decide +kernel
theorem D67_14 : decode (mB 67) 14 = .ok (.iload_n 2, 1) := by decide +kernel
theorem D67_15 : CS 67 15 69 2 := ⟨.invokestatic 139, by decide +kernel, by decide +kernel, by decide +kernel, by decide⟩
theorem D67_18 : BR 67 18 (.ifCond .eq 7) (7) 25 := ⟨by decide +kernel, by decide, by decide⟩
theorem D67_21 : decode (mB 67) 21 = .ok (.iconst 1, 1) := by decide +kernel
theorem D67_22 : BR 67 22 (.goto 4) (4) 26 := ⟨by decide +kernel, by decide, by decide⟩
theorem LC_isSpeaker_e (d : Nat) (a0 : Nat) (x1 : Int32) (x2 : Int32) (m : eM) (h_a0 : kd a0 = 9) : LC_isSpeaker (d + 1) a0 x1 x2 m = bR (gR m a0 2) fun r1 => gd r1 6 (bR (gR m r1 0) fun r3 => gd r3 4 (bI (Pa_isPerson d r3 x1 m) fun v6 m5 => if v6 = 0 then (yI (0 : Int32) m5) else (bI (LC_isMinute d x2 m5) fun v8 m7 => if v8 = 0 then (yI (0 : Int32) m7) else (yI (1 : Int32) m7)))) := by
  unfold LC_isSpeaker
  refine (x_aload1 D67_0 rfl).trans ?_
  refine ((x_getR D67_1).trans (gd_t h_a0)).trans (bR_c fun r1 => ?_)
  refine (x_getR D67_4).trans (gd_c fun h2 => bR_c fun r3 => ?_)
  refine (x_iload1 D67_7 rfl).trans ?_
  refine (x_cg D67_8 M68 rfl rfl).trans (gd_c fun h4 => ?_)
  refine (x_cI D67_8 M68 (fun z => by cases z) (I68 _ _) rfl rfl (ok_i M68 (I68 _ _) rfl rfl h4)).trans (bI_c fun v6 m5 => ?_)
  refine (x_ifeq D67_11).trans (i_c ?_ ?_)
  · refine (x_iconst D67_25 (k := 0) (by decide)).trans ?_
    exact (x_bret D67_26 M67.2.2.1).trans yB0
  · refine (x_iload1 D67_14 rfl).trans ?_
    refine (x_cI D67_15 M69 (fun z => by cases z) (I69 _) rfl rfl (ok_s M69 (I69 _) rfl rfl)).trans (bI_c fun v8 m7 => ?_)
    refine (x_ifeq D67_18).trans (i_c ?_ ?_)
    · refine (x_iconst D67_25 (k := 0) (by decide)).trans ?_
      exact (x_bret D67_26 M67.2.2.1).trans yB0
    · refine (x_iconst D67_21 (k := 1) (by decide)).trans ?_
      refine (x_goto D67_22).trans ?_
      exact (x_bret D67_26 M67.2.2.1).trans yB1
theorem D69_0 : decode (mB 69) 0 = .ok (.iload_n 0, 1) := by decide +kernel
theorem D69_1 : BR 69 1 (.ifCond .lt 14) (14) 15 := ⟨by decide +kernel, by decide, by decide⟩
theorem D69_15 : decode (mB 69) 15 = .ok (.iconst 0, 1) := by decide +kernel
theorem D69_16 : decode (mB 69) 16 = .ok (.ireturn, 1) := by decide +kernel
theorem D69_4 : decode (mB 69) 4 = .ok (.iload_n 0, 1) := by decide +kernel
theorem D69_5 : decode (mB 69) 5 = .ok (.sipush 1439, 3) := by decide +kernel
theorem D69_8 : BR 69 8 (.if_icmp .gt 7) (7) 15 := ⟨by decide +kernel, by decide, by decide⟩
theorem D69_11 : decode (mB 69) 11 = .ok (.iconst 1, 1) := by decide +kernel
theorem D69_12 : BR 69 12 (.goto 4) (4) 16 := ⟨by decide +kernel, by decide, by decide⟩
theorem LC_isMinute_e (d : Nat) (x0 : Int32) (m : eM)  : LC_isMinute d x0 m = if x0 < 0 then (yI (0 : Int32) m) else (if (1439 : Int32) < x0 then (yI (0 : Int32) m) else (yI (1 : Int32) m)) := by
  unfold LC_isMinute
  refine (x_iload1 D69_0 rfl).trans ?_
  refine (x_iflt D69_1).trans (i_c ?_ ?_)
  · refine (x_iconst D69_15 (k := 0) (by decide)).trans ?_
    exact (x_bret D69_16 M69.2.2.1).trans yB0
  · refine (x_iload1 D69_4 rfl).trans ?_
    refine (x_sipush D69_5 (k := 1439) (by decide)).trans ?_
    refine (x_cgt D69_8).trans (i_c ?_ ?_)
    · refine (x_iconst D69_15 (k := 0) (by decide)).trans ?_
      exact (x_bret D69_16 M69.2.2.1).trans yB0
    · refine (x_iconst D69_11 (k := 1) (by decide)).trans ?_
      refine (x_goto D69_12).trans ?_
      exact (x_bret D69_16 M69.2.2.1).trans yB1
theorem D74_0 : decode (mB 74) 0 = .ok (.aload_n 0, 1) := by decide +kernel
theorem D74_1 : GF 74 1 9 0 2 := ⟨12, true, by decide +kernel, by decide +kernel⟩
theorem D74_4 : CS 74 4 14 0 := ⟨.invokevirtual 87, by decide +kernel, by decide +kernel, by decide +kernel, by decide⟩
theorem D74_7 : decode (mB 74) 7 = .ok (.aload_n 0, 1) := by decide +kernel
theorem D74_8 : GF 74 8 9 0 2 := ⟨12, true, by decide +kernel, by decide +kernel⟩
theorem D74_11 : CS 74 11 21 0 := ⟨.invokevirtual 396, by decide +kernel, by decide +kernel, by decide +kernel, by decide⟩
theorem D74_14 : BR 74 14 (.ifCond .ne 14) (14) 28 := ⟨by decide +kernel, by decide, by decide⟩
theorem D74_28 : decode (mB 74) 28 = .ok (.aload_n 0, 1) := by decide +kernel
theorem D74_29 : GF 74 29 9 1 2 := ⟨19, true, by decide +kernel, by decide +kernel⟩
theorem D74_32 : decode (mB 74) 32 = .ok (.aload_n 0, 1) := by decide +kernel
theorem D74_33 : GF 74 33 9 0 2 := ⟨12, true, by decide +kernel, by decide +kernel⟩
theorem D74_36 : decode (mB 74) 36 = .ok (.aload_n 0, 1) := by decide +kernel
theorem D74_37 : GF 74 37 9 2 2 := ⟨26, true, by decide +kernel, by decide +kernel⟩
theorem D74_40 : GF 74 40 6 0 2 := ⟨124, false, by decide +kernel, by decide +kernel⟩
theorem D74_43 : CS 74 43 44 0 := ⟨.invokevirtual 402, by decide +kernel, by decide +kernel, by decide +kernel, by decide⟩
theorem D74_46 : BR 74 46 (.ifCond .eq 13) (13) 59 := ⟨by decide +kernel, by decide, by decide⟩
theorem D74_59 : decode (mB 74) 59 = .ok (.aload_n 0, 1) := by decide +kernel
theorem D74_60 : GF 74 60 9 0 2 := ⟨12, true, by decide +kernel, by decide +kernel⟩
theorem D74_63 : CS 74 63 65 0 := ⟨.invokevirtual 101, by decide +kernel, by decide +kernel, by decide +kernel, by decide⟩
theorem D74_66 : decode (mB 74) 66 = .ok (.ireturn, 1) := by decide +kernel
theorem D74_49 : decode (mB 74) 49 = .ok (.aload_n 0, 1) := by decide +kernel
theorem D74_50 : GF 74 50 9 0 2 := ⟨12, true, by decide +kernel, by decide +kernel⟩
theorem D74_53 : CS 74 53 77 0 := ⟨.invokevirtual 405, by decide +kernel, by decide +kernel, by decide +kernel, by decide⟩
theorem D74_56 : BR 74 56 (.ifCond .ne 11) (11) 67 := ⟨by decide +kernel, by decide, by decide⟩
theorem D74_67 : decode (mB 74) 67 = .ok (.aload_n 0, 1) := by decide +kernel
theorem D74_68 : decode (mB 74) 68 = .ok (.aload_n 1, 1) := by decide +kernel
theorem D74_69 : decode (mB 74) 69 = .ok (.iload_n 2, 1) := by decide +kernel
theorem D74_70 : decode (mB 74) 70 = .ok (.iload_n 3, 1) := by decide +kernel
theorem D74_71 : decode (mB 74) 71 = .ok (.aload_n 0, 1) := by decide +kernel
theorem D74_72 : GF 74 72 9 1 2 := ⟨19, true, by decide +kernel, by decide +kernel⟩
theorem D74_75 : decode (mB 74) 75 = .ok (.aload_n 0, 1) := by decide +kernel
theorem D74_76 : GF 74 76 9 2 2 := ⟨26, true, by decide +kernel, by decide +kernel⟩
theorem D74_79 : GF 74 79 6 0 2 := ⟨124, false, by decide +kernel, by decide +kernel⟩
theorem D74_82 : CS 74 82 78 0 := ⟨.invokevirtual 378, by decide +kernel, by decide +kernel, by decide +kernel, by decide⟩
theorem D74_85 : CS 74 85 53 0 := ⟨.invokevirtual 409, by decide +kernel, by decide +kernel, by decide +kernel, by decide⟩
theorem D74_88 : CS 74 88 79 0 := ⟨.invokevirtual 251, by decide +kernel, by decide +kernel, by decide +kernel, by decide⟩
theorem D74_91 : decode (mB 74) 91 = .ok (.iconst 0, 1) := by decide +kernel
theorem D74_92 : decode (mB 74) 92 = .ok (.ireturn, 1) := by decide +kernel
theorem D74_17 : decode (mB 74) 17 = .ok (.aload_n 1, 1) := by decide +kernel
theorem D74_18 : decode (mB 74) 18 = .ok (.iload_n 2, 1) := by decide +kernel
theorem D74_19 : decode (mB 74) 19 = .ok (.iload_n 3, 1) := by decide +kernel
theorem D74_20 : decode (mB 74) 20 = .ok (.lconst 0, 1) := by decide +kernel
theorem D74_21 : decode (mB 74) 21 = .ok (.lconst 0, 1) := by decide +kernel
theorem D74_22 : decode (mB 74) 22 = .ok (.lconst 0, 1) := by decide +kernel
theorem D74_23 : CS 74 23 75 0 := ⟨.invokevirtual 399, by decide +kernel, by decide +kernel, by decide +kernel, by decide⟩
theorem D74_26 : decode (mB 74) 26 = .ok (.iconst 0, 1) := by decide +kernel
theorem D74_27 : decode (mB 74) 27 = .ok (.ireturn, 1) := by decide +kernel
theorem LC_hear_e (d : Nat) (a0 : Nat) (a1 : Nat) (x2 : Int32) (x3 : Int32) (m : eM) (h_a0 : kd a0 = 9) (h_a1 : kd a1 = 7) : LC_hear (d + 1) a0 a1 x2 x3 m = bR (gR m a0 0) fun r1 => gd r1 8 (bV (Ta_open d r1 m) fun m3 => bR (gR m3 a0 0) fun r4 => gd r4 8 (bI (Ta_kind d r4 m3) fun v7 m6 => if ¬ v7 = 0 then (bR (gR m6 a0 1) fun r8 => bR (gR m6 a0 0) fun r9 => bR (gR m6 a0 2) fun r10 => gd r10 6 (bR (gR m6 r10 0) fun r12 => gd r8 2 (bI (Fo_read d r8 r9 r12 m6) fun v15 m14 => if v15 = 0 then (bR (gR m14 a0 0) fun r16 => gd r16 8 (bI (Ta_fault d r16 m14) fun v19 m18 => yI v19 m18)) else (bR (gR m14 a0 0) fun r20 => gd r20 8 (bI (Ta_ends d r20 m14) fun v23 m22 => if ¬ v23 = 0 then (bR (gR m22 a0 1) fun r24 => bR (gR m22 a0 2) fun r25 => gd r25 6 (bR (gR m22 r25 0) fun r27 => gd r27 4 (bI (Pa_facts d r27 m22) fun v30 m29 => gd r24 2 (bL (Fo_worldsSo d r24 v30 m29) fun v33 m32 => bV (LC_tell d a0 a1 x2 x3 v33 m32) fun m34 => yI (0 : Int32) m34)))) else (bR (gR m22 a0 0) fun r35 => gd r35 8 (bI (Ta_fault d r35 m22) fun v38 m37 => yI v38 m37))))))) else (bV (Tk_add d a1 x2 x3 (0 : Int64) (0 : Int64) (0 : Int64) m6) fun m39 => yI (0 : Int32) m39))) := by
  unfold LC_hear
  refine (x_aload1 D74_0 rfl).trans ?_
  refine ((x_getR D74_1).trans (gd_t h_a0)).trans (bR_c fun r1 => ?_)
  refine (x_cg D74_4 M14 rfl rfl).trans (gd_c fun h2 => ?_)
  refine (x_cV D74_4 M14  (I14 _) rfl rfl (ok_i M14 (I14 _) rfl rfl h2)).trans (bV_c fun m3 => ?_)
  refine (x_aload1 D74_7 rfl).trans ?_
  refine ((x_getR D74_8).trans (gd_t h_a0)).trans (bR_c fun r4 => ?_)
  refine (x_cg D74_11 M21 rfl rfl).trans (gd_c fun h5 => ?_)
  refine (x_cI D74_11 M21 (fun z => by cases z) (I21 _) rfl rfl (ok_i M21 (I21 _) rfl rfl h5)).trans (bI_c fun v7 m6 => ?_)
  refine (x_ifne D74_14).trans (i_c ?_ ?_)
  · refine (x_aload1 D74_28 rfl).trans ?_
    refine ((x_getR D74_29).trans (gd_t h_a0)).trans (bR_c fun r8 => ?_)
    refine (x_aload1 D74_32 rfl).trans ?_
    refine ((x_getR D74_33).trans (gd_t h_a0)).trans (bR_c fun r9 => ?_)
    refine (x_aload1 D74_36 rfl).trans ?_
    refine ((x_getR D74_37).trans (gd_t h_a0)).trans (bR_c fun r10 => ?_)
    refine (x_getR D74_40).trans (gd_c fun h11 => bR_c fun r12 => ?_)
    refine (x_cg D74_43 M44 rfl rfl).trans (gd_c fun h13 => ?_)
    refine (x_cI D74_43 M44 (fun z => by cases z) (I44 _ _ _) rfl rfl (ok_i M44 (I44 _ _ _) rfl rfl h13)).trans (bI_c fun v15 m14 => ?_)
    refine (x_ifeq D74_46).trans (i_c ?_ ?_)
    · refine (x_aload1 D74_59 rfl).trans ?_
      refine ((x_getR D74_60).trans (gd_t h_a0)).trans (bR_c fun r16 => ?_)
      refine (x_cg D74_63 M65 rfl rfl).trans (gd_c fun h17 => ?_)
      refine (x_cI D74_63 M65 (fun z => by cases z) (I65 _) rfl rfl (ok_i M65 (I65 _) rfl rfl h17)).trans (bI_c fun v19 m18 => ?_)
      exact x_iret D74_66 M74.2.2.1
    · refine (x_aload1 D74_49 rfl).trans ?_
      refine ((x_getR D74_50).trans (gd_t h_a0)).trans (bR_c fun r20 => ?_)
      refine (x_cg D74_53 M77 rfl rfl).trans (gd_c fun h21 => ?_)
      refine (x_cI D74_53 M77 (fun z => by cases z) (I77 _) rfl rfl (ok_i M77 (I77 _) rfl rfl h21)).trans (bI_c fun v23 m22 => ?_)
      refine (x_ifne D74_56).trans (i_c ?_ ?_)
      · refine (x_aload1 D74_67 rfl).trans ?_
        refine (x_aload1 D74_68 rfl).trans ?_
        refine (x_iload1 D74_69 rfl).trans ?_
        refine (x_iload1 D74_70 rfl).trans ?_
        refine (x_aload1 D74_71 rfl).trans ?_
        refine ((x_getR D74_72).trans (gd_t h_a0)).trans (bR_c fun r24 => ?_)
        refine (x_aload1 D74_75 rfl).trans ?_
        refine ((x_getR D74_76).trans (gd_t h_a0)).trans (bR_c fun r25 => ?_)
        refine (x_getR D74_79).trans (gd_c fun h26 => bR_c fun r27 => ?_)
        refine (x_cg D74_82 M78 rfl rfl).trans (gd_c fun h28 => ?_)
        refine (x_cI D74_82 M78 (fun z => by cases z) (I78 _) rfl rfl (ok_i M78 (I78 _) rfl rfl h28)).trans (bI_c fun v30 m29 => ?_)
        refine (x_cg D74_85 M53 rfl rfl).trans (gd_c fun h31 => ?_)
        refine (x_cL D74_85 M53  (I53 _ _) rfl rfl (ok_i M53 (I53 _ _) rfl rfl h31)).trans (bL_c fun v33 m32 => ?_)
        refine (x_cV D74_88 M79  (I79 _ _ _ _ _) rfl rfl (ok_i M79 (I79 _ _ _ _ _) rfl rfl h_a0)).trans (bV_c fun m34 => ?_)
        refine (x_iconst D74_91 (k := 0) (by decide)).trans ?_
        exact x_iret D74_92 M74.2.2.1
      · refine (x_aload1 D74_59 rfl).trans ?_
        refine ((x_getR D74_60).trans (gd_t h_a0)).trans (bR_c fun r35 => ?_)
        refine (x_cg D74_63 M65 rfl rfl).trans (gd_c fun h36 => ?_)
        refine (x_cI D74_63 M65 (fun z => by cases z) (I65 _) rfl rfl (ok_i M65 (I65 _) rfl rfl h36)).trans (bI_c fun v38 m37 => ?_)
        exact x_iret D74_66 M74.2.2.1
  · refine (x_aload1 D74_17 rfl).trans ?_
    refine (x_iload1 D74_18 rfl).trans ?_
    refine (x_iload1 D74_19 rfl).trans ?_
    refine (x_lconst0 D74_20).trans ?_
    refine (x_lconst0 D74_21).trans ?_
    refine (x_lconst0 D74_22).trans ?_
    refine (x_cV D74_23 M75  (I75 _ _ _ _ _ _) rfl rfl (ok_i M75 (I75 _ _ _ _ _ _) rfl rfl h_a1)).trans (bV_c fun m39 => ?_)
    refine (x_iconst D74_26 (k := 0) (by decide)).trans ?_
    exact x_iret D74_27 M74.2.2.1
theorem D79_0 : decode (mB 79) 0 = .ok (.aload_n 0, 1) := by decide +kernel
theorem D79_1 : GF 79 1 9 2 2 := ⟨26, true, by decide +kernel, by decide +kernel⟩
theorem D79_4 : GF 79 4 6 0 2 := ⟨124, false, by decide +kernel, by decide +kernel⟩
theorem D79_7 : decode (mB 79) 7 = .ok (.astore 6, 2) := by decide +kernel
theorem D79_9 : decode (mB 79) 9 = .ok (.aload_n 1, 1) := by decide +kernel
theorem D79_10 : decode (mB 79) 10 = .ok (.iload_n 2, 1) := by decide +kernel
theorem D79_11 : decode (mB 79) 11 = .ok (.iload_n 3, 1) := by decide +kernel
theorem D79_12 : decode (mB 79) 12 = .ok (.lload 4, 2) := by decide +kernel
theorem D79_14 : decode (mB 79) 14 = .ok (.aload 6, 2) := by decide +kernel
theorem D79_16 : decode (mB 79) 16 = .ok (.lload 4, 2) := by decide +kernel
theorem D79_18 : decode (mB 79) 18 = .ok (.iconst 0, 1) := by decide +kernel
theorem D79_19 : decode (mB 79) 19 = .ok (.iload_n 2, 1) := by decide +kernel
theorem D79_20 : CS 79 20 80 0 := ⟨.invokevirtual 412, by decide +kernel, by decide +kernel, by decide +kernel, by decide⟩
theorem D79_23 : decode (mB 79) 23 = .ok (.aload 6, 2) := by decide +kernel
theorem D79_25 : decode (mB 79) 25 = .ok (.lload 4, 2) := by decide +kernel
theorem D79_27 : decode (mB 79) 27 = .ok (.iconst 1, 1) := by decide +kernel
theorem D79_28 : decode (mB 79) 28 = .ok (.iload_n 2, 1) := by decide +kernel
theorem D79_29 : CS 79 29 80 0 := ⟨.invokevirtual 412, by decide +kernel, by decide +kernel, by decide +kernel, by decide⟩
theorem D79_32 : CS 79 32 75 0 := ⟨.invokevirtual 399, by decide +kernel, by decide +kernel, by decide +kernel, by decide⟩
theorem D79_35 : decode (mB 79) 35 = .ok (.return_, 1) := by decide +kernel
theorem LC_tell_e (d : Nat) (a0 : Nat) (a1 : Nat) (x2 : Int32) (x3 : Int32) (y4 : Int64) (m : eM) (h_a0 : kd a0 = 9) (h_a1 : kd a1 = 7) : LC_tell (d + 1) a0 a1 x2 x3 y4 m = bR (gR m a0 2) fun r1 => gd r1 6 (bR (gR m r1 0) fun r3 => gd r3 4 (bL (Pa_lies d r3 y4 (0 : Int32) x2 m) fun v6 m5 => bL (Pa_lies d r3 y4 (1 : Int32) x2 m5) fun v8 m7 => bV (Tk_add d a1 x2 x3 y4 v6 v8 m7) fun m9 => yV m9)) := by
  unfold LC_tell
  refine (x_aload1 D79_0 rfl).trans ?_
  refine ((x_getR D79_1).trans (gd_t h_a0)).trans (bR_c fun r1 => ?_)
  refine (x_getR D79_4).trans (gd_c fun h2 => bR_c fun r3 => ?_)
  refine (x_astore2 D79_7 (ls' := [.ref a0, .ref a1, .int x2, .int x3, .long y4, eU, .ref r3]) rfl rfl).trans ?_
  refine (x_aload1 D79_9 rfl).trans ?_
  refine (x_iload1 D79_10 rfl).trans ?_
  refine (x_iload1 D79_11 rfl).trans ?_
  refine (x_lload2 D79_12 rfl).trans ?_
  refine (x_aload2 D79_14 rfl).trans ?_
  refine (x_lload2 D79_16 rfl).trans ?_
  refine (x_iconst D79_18 (k := 0) (by decide)).trans ?_
  refine (x_iload1 D79_19 rfl).trans ?_
  refine (x_cg D79_20 M80 rfl rfl).trans (gd_c fun h4 => ?_)
  refine (x_cL D79_20 M80  (I80 _ _ _ _) rfl rfl (ok_i M80 (I80 _ _ _ _) rfl rfl h4)).trans (bL_c fun v6 m5 => ?_)
  refine (x_aload2 D79_23 rfl).trans ?_
  refine (x_lload2 D79_25 rfl).trans ?_
  refine (x_iconst D79_27 (k := 1) (by decide)).trans ?_
  refine (x_iload1 D79_28 rfl).trans ?_
  refine (x_cL D79_29 M80  (I80 _ _ _ _) rfl rfl (ok_i M80 (I80 _ _ _ _) rfl rfl h4)).trans (bL_c fun v8 m7 => ?_)
  refine (x_cV D79_32 M75  (I75 _ _ _ _ _ _) rfl rfl (ok_i M75 (I75 _ _ _ _ _ _) rfl rfl h_a1)).trans (bV_c fun m9 => ?_)
  exact x_vret D79_35 M79.2.2.1
theorem D84_0 : decode (mB 84) 0 = .ok (.iload_n 0, 1) := by decide +kernel
theorem D84_1 : BR 84 1 (.ifCond .lt 19) (19) 20 := ⟨by decide +kernel, by decide, by decide⟩
theorem D84_20 : decode (mB 84) 20 = .ok (.lconst 0, 1) := by decide +kernel
theorem D84_21 : decode (mB 84) 21 = .ok (.lreturn, 1) := by decide +kernel
theorem D84_4 : decode (mB 84) 4 = .ok (.iload_n 0, 1) := by decide +kernel
theorem R84_5 : sRes (mC 84) 387 = some 1 := by decide +kernel
theorem D84_5 : decode (mB 84) 5 = .ok (.getstatic 387, 3) := by decide +kernel
theorem D84_8 : decode (mB 84) 8 = .ok (.arraylength, 1) := by decide +kernel
theorem D84_9 : BR 84 9 (.if_icmp .ge 11) (11) 20 := ⟨by decide +kernel, by decide, by decide⟩
theorem R84_12 : sRes (mC 84) 387 = some 1 := by decide +kernel
theorem D84_12 : decode (mB 84) 12 = .ok (.getstatic 387, 3) := by decide +kernel
theorem D84_15 : decode (mB 84) 15 = .ok (.iload_n 0, 1) := by decide +kernel
theorem D84_16 : decode (mB 84) 16 = .ok (.laload, 1) := by decide +kernel
theorem D84_17 : BR 84 17 (.goto 4) (4) 21 := ⟨by decide +kernel, by decide, by decide⟩
theorem LC_factSo_e (d : Nat) (x0 : Int32) (m : eM)  : LC_factSo d x0 m = if x0 < 0 then (yL (0 : Int64) m) else (gl 1 (if ((aln m 1).toInt32) ≤ x0 then (yL (0 : Int64) m) else (ga m 1 21 x0 (yL (gL m 1 x0.toNatClampNeg) m)))) := by
  unfold LC_factSo
  refine (x_iload1 D84_0 rfl).trans ?_
  refine (x_iflt D84_1).trans (i_c ?_ ?_)
  · refine (x_lconst0 D84_20).trans ?_
    exact x_lret D84_21 M84.2.2.1
  · refine (x_iload1 D84_4 rfl).trans ?_
    refine (x_gets D84_5 R84_5).trans ?_
    refine (x_alen D84_8).trans (gl_c ?_)
    refine (x_cge D84_9).trans (i_c ?_ ?_)
    · refine (x_lconst0 D84_20).trans ?_
      exact x_lret D84_21 M84.2.2.1
    · refine (x_gets D84_12 R84_12).trans ?_
      refine (x_iload1 D84_15 rfl).trans ?_
      refine (x_laload D84_16).trans (ga_c ?_)
      refine (x_goto D84_17).trans ?_
      exact x_lret D84_21 M84.2.2.1
theorem D85_0 : decode (mB 85) 0 = .ok (.iconst (-1), 1) := by decide +kernel
theorem D85_1 : decode (mB 85) 1 = .ok (.istore_n 3, 1) := by decide +kernel
theorem D85_2 : decode (mB 85) 2 = .ok (.aload_n 0, 1) := by decide +kernel
theorem D85_3 : decode (mB 85) 3 = .ok (.iload_n 1, 1) := by decide +kernel
theorem D85_4 : decode (mB 85) 4 = .ok (.iload_n 2, 1) := by decide +kernel
theorem D85_5 : CS 85 5 67 0 := ⟨.invokevirtual 104, by decide +kernel, by decide +kernel, by decide +kernel, by decide⟩
theorem D85_8 : BR 85 8 (.ifCond .eq 32) (32) 40 := ⟨by decide +kernel, by decide, by decide⟩
theorem D85_40 : decode (mB 85) 40 = .ok (.aload_n 0, 1) := by decide +kernel
theorem D85_41 : GF 85 41 9 0 2 := ⟨12, true, by decide +kernel, by decide +kernel⟩
theorem D85_44 : CS 85 44 61 0 := ⟨.invokevirtual 94, by decide +kernel, by decide +kernel, by decide +kernel, by decide⟩
theorem D85_47 : decode (mB 85) 47 = .ok (.iload_n 3, 1) := by decide +kernel
theorem D85_48 : decode (mB 85) 48 = .ok (.ireturn, 1) := by decide +kernel
theorem D85_11 : decode (mB 85) 11 = .ok (.aload_n 0, 1) := by decide +kernel
theorem D85_12 : GF 85 12 9 2 2 := ⟨26, true, by decide +kernel, by decide +kernel⟩
theorem D85_15 : GF 85 15 6 2 2 := ⟨121, true, by decide +kernel, by decide +kernel⟩
theorem D85_18 : CS 85 18 70 0 := ⟨.invokevirtual 111, by decide +kernel, by decide +kernel, by decide +kernel, by decide⟩
theorem D85_21 : decode (mB 85) 21 = .ok (.bipush 6, 2) := by decide +kernel
theorem D85_23 : BR 85 23 (.if_icmp .ge 17) (17) 40 := ⟨by decide +kernel, by decide, by decide⟩
theorem D85_26 : decode (mB 85) 26 = .ok (.aload_n 0, 1) := by decide +kernel
theorem D85_27 : decode (mB 85) 27 = .ok (.aload_n 0, 1) := by decide +kernel
theorem D85_28 : GF 85 28 9 2 2 := ⟨26, true, by decide +kernel, by decide +kernel⟩
theorem D85_31 : GF 85 31 6 2 2 := ⟨121, true, by decide +kernel, by decide +kernel⟩
theorem D85_34 : decode (mB 85) 34 = .ok (.iload_n 1, 1) := by decide +kernel
theorem D85_35 : decode (mB 85) 35 = .ok (.iload_n 2, 1) := by decide +kernel
theorem D85_36 : CS 85 36 74 0 := ⟨.invokevirtual 117, by decide +kernel, by decide +kernel, by decide +kernel, by decide⟩
theorem D85_39 : decode (mB 85) 39 = .ok (.istore_n 3, 1) := by decide +kernel
theorem LC_offer_e (d : Nat) (a0 : Nat) (x1 : Int32) (x2 : Int32) (m : eM) (h_a0 : kd a0 = 9) : LC_offer (d + 1) a0 x1 x2 m = bI (LC_isSpeaker d a0 x1 x2 m) fun v2 m1 => if v2 = 0 then (bR (gR m1 a0 0) fun r3 => gd r3 8 (bV (Ta_clear d r3 m1) fun m5 => yI (-1 : Int32) m5)) else (bR (gR m1 a0 2) fun r6 => gd r6 6 (bR (gR m1 r6 2) fun r8 => gd r8 7 (bI (Tk_size d r8 m1) fun v11 m10 => if (6 : Int32) ≤ v11 then (bR (gR m10 a0 0) fun r12 => gd r12 8 (bV (Ta_clear d r12 m10) fun m14 => yI (-1 : Int32) m14)) else (bR (gR m10 a0 2) fun r15 => gd r15 6 (bR (gR m10 r15 2) fun r17 => bI (LC_hear d a0 r17 x1 x2 m10) fun v19 m18 => bR (gR m18 a0 0) fun r20 => gd r20 8 (bV (Ta_clear d r20 m18) fun m22 => yI v19 m22)))))) := by
  unfold LC_offer
  refine (x_iconst D85_0 (k := -1) (by decide)).trans ?_
  refine (x_istore1 D85_1 (ls' := [.ref a0, .int x1, .int x2, .int (-1 : Int32)]) rfl rfl).trans ?_
  refine (x_aload1 D85_2 rfl).trans ?_
  refine (x_iload1 D85_3 rfl).trans ?_
  refine (x_iload1 D85_4 rfl).trans ?_
  refine (x_cI D85_5 M67 (fun z => by cases z) (I67 _ _ _) rfl rfl (ok_i M67 (I67 _ _ _) rfl rfl h_a0)).trans (bI_c fun v2 m1 => ?_)
  refine (x_ifeq D85_8).trans (i_c ?_ ?_)
  · refine (x_aload1 D85_40 rfl).trans ?_
    refine ((x_getR D85_41).trans (gd_t h_a0)).trans (bR_c fun r3 => ?_)
    refine (x_cg D85_44 M61 rfl rfl).trans (gd_c fun h4 => ?_)
    refine (x_cV D85_44 M61  (I61 _) rfl rfl (ok_i M61 (I61 _) rfl rfl h4)).trans (bV_c fun m5 => ?_)
    refine (x_iload1 D85_47 rfl).trans ?_
    exact x_iret D85_48 M85.2.2.1
  · refine (x_aload1 D85_11 rfl).trans ?_
    refine ((x_getR D85_12).trans (gd_t h_a0)).trans (bR_c fun r6 => ?_)
    refine (x_getR D85_15).trans (gd_c fun h7 => bR_c fun r8 => ?_)
    refine (x_cg D85_18 M70 rfl rfl).trans (gd_c fun h9 => ?_)
    refine (x_cI D85_18 M70 (fun z => by cases z) (I70 _) rfl rfl (ok_i M70 (I70 _) rfl rfl h9)).trans (bI_c fun v11 m10 => ?_)
    refine (x_bipush D85_21 (k := 6) (by decide)).trans ?_
    refine (x_cge D85_23).trans (i_c ?_ ?_)
    · refine (x_aload1 D85_40 rfl).trans ?_
      refine ((x_getR D85_41).trans (gd_t h_a0)).trans (bR_c fun r12 => ?_)
      refine (x_cg D85_44 M61 rfl rfl).trans (gd_c fun h13 => ?_)
      refine (x_cV D85_44 M61  (I61 _) rfl rfl (ok_i M61 (I61 _) rfl rfl h13)).trans (bV_c fun m14 => ?_)
      refine (x_iload1 D85_47 rfl).trans ?_
      exact x_iret D85_48 M85.2.2.1
    · refine (x_aload1 D85_26 rfl).trans ?_
      refine (x_aload1 D85_27 rfl).trans ?_
      refine ((x_getR D85_28).trans (gd_t h_a0)).trans (bR_c fun r15 => ?_)
      refine (x_getR D85_31).trans (gd_c fun h16 => bR_c fun r17 => ?_)
      refine (x_iload1 D85_34 rfl).trans ?_
      refine (x_iload1 D85_35 rfl).trans ?_
      refine (x_cI D85_36 M74 (fun z => by cases z) (I74 _ _ _ _) rfl rfl (ok_i M74 (I74 _ _ _ _) rfl rfl h_a0)).trans (bI_c fun v19 m18 => ?_)
      refine (x_istore1 D85_39 (ls' := [.ref a0, .int x1, .int x2, .int v19]) rfl rfl).trans ?_
      refine (x_aload1 D85_40 rfl).trans ?_
      refine ((x_getR D85_41).trans (gd_t h_a0)).trans (bR_c fun r20 => ?_)
      refine (x_cg D85_44 M61 rfl rfl).trans (gd_c fun h21 => ?_)
      refine (x_cV D85_44 M61  (I61 _) rfl rfl (ok_i M61 (I61 _) rfl rfl h21)).trans (bV_c fun m22 => ?_)
      refine (x_iload1 D85_47 rfl).trans ?_
      exact x_iret D85_48 M85.2.2.1
theorem D86_0 : decode (mB 86) 0 = .ok (.aload_n 0, 1) := by decide +kernel
theorem D86_1 : GF 86 1 9 2 2 := ⟨26, true, by decide +kernel, by decide +kernel⟩
theorem D86_4 : GF 86 4 6 0 2 := ⟨124, false, by decide +kernel, by decide +kernel⟩
theorem D86_7 : decode (mB 86) 7 = .ok (.iload_n 1, 1) := by decide +kernel
theorem D86_8 : CS 86 8 87 0 := ⟨.invokevirtual 128, by decide +kernel, by decide +kernel, by decide +kernel, by decide⟩
theorem D86_11 : BR 86 11 (.ifCond .ne 5) (5) 16 := ⟨by decide +kernel, by decide, by decide⟩
theorem D86_16 : decode (mB 86) 16 = .ok (.aload_n 0, 1) := by decide +kernel
theorem D86_17 : GF 86 17 9 2 2 := ⟨26, true, by decide +kernel, by decide +kernel⟩
theorem D86_20 : decode (mB 86) 20 = .ok (.iload_n 1, 1) := by decide +kernel
theorem D86_21 : PF 86 21 6 5 0 := ⟨132, false, by decide +kernel, by decide +kernel, by decide +kernel, by decide⟩
theorem D86_24 : decode (mB 86) 24 = .ok (.iconst 1, 1) := by decide +kernel
theorem D86_25 : decode (mB 86) 25 = .ok (.ireturn, 1) := by decide +kernel
theorem D86_14 : decode (mB 86) 14 = .ok (.iconst 0, 1) := by decide +kernel
theorem D86_15 : decode (mB 86) 15 = .ok (.ireturn, 1) := by decide +kernel
theorem LC_truth_e (d : Nat) (a0 : Nat) (x1 : Int32) (m : eM) (h_a0 : kd a0 = 9) : LC_truth (d + 1) a0 x1 m = bR (gR m a0 2) fun r1 => gd r1 6 (bR (gR m r1 0) fun r3 => gd r3 4 (bI (Pa_isWorld d r3 x1 m) fun v6 m5 => if ¬ v6 = 0 then (bR (gR m5 a0 2) fun r7 => gd r7 6 (mI m5 r7 5 x1 fun m9 => yI (1 : Int32) m9)) else (yI (0 : Int32) m5))) := by
  unfold LC_truth
  refine (x_aload1 D86_0 rfl).trans ?_
  refine ((x_getR D86_1).trans (gd_t h_a0)).trans (bR_c fun r1 => ?_)
  refine (x_getR D86_4).trans (gd_c fun h2 => bR_c fun r3 => ?_)
  refine (x_iload1 D86_7 rfl).trans ?_
  refine (x_cg D86_8 M87 rfl rfl).trans (gd_c fun h4 => ?_)
  refine (x_cI D86_8 M87 (fun z => by cases z) (I87 _ _) rfl rfl (ok_i M87 (I87 _ _) rfl rfl h4)).trans (bI_c fun v6 m5 => ?_)
  refine (x_ifne D86_11).trans (i_c ?_ ?_)
  · refine (x_aload1 D86_16 rfl).trans ?_
    refine ((x_getR D86_17).trans (gd_t h_a0)).trans (bR_c fun r7 => ?_)
    refine (x_iload1 D86_20 rfl).trans ?_
    refine (x_putG D86_21).trans (gd_c fun h8 => ?_)
    refine (x_putI D86_21 h8).trans ?_
    refine mI_i (fun m9 => X (d + 1) 86 24 [.ref a0, .int x1] [] m9) _ ?_
    intro m9
    refine (x_iconst D86_24 (k := 1) (by decide)).trans ?_
    exact (x_bret D86_25 M86.2.2.1).trans yB1
  · refine (x_iconst D86_14 (k := 0) (by decide)).trans ?_
    exact (x_bret D86_15 M86.2.2.1).trans yB0
theorem D88_0 : decode (mB 88) 0 = .ok (.aload_n 0, 1) := by decide +kernel
theorem D88_1 : GF 88 1 9 2 2 := ⟨26, true, by decide +kernel, by decide +kernel⟩
theorem D88_4 : GF 88 4 6 0 2 := ⟨124, false, by decide +kernel, by decide +kernel⟩
theorem D88_7 : decode (mB 88) 7 = .ok (.iload_n 1, 1) := by decide +kernel
theorem D88_8 : CS 88 8 89 0 := ⟨.invokevirtual 136, by decide +kernel, by decide +kernel, by decide +kernel, by decide⟩
theorem D88_11 : BR 88 11 (.ifCond .eq 40) (40) 51 := ⟨by decide +kernel, by decide, by decide⟩
theorem D88_51 : decode (mB 88) 51 = .ok (.iconst (-1), 1) := by decide +kernel
theorem D88_52 : decode (mB 88) 52 = .ok (.ireturn, 1) := by decide +kernel
theorem D88_14 : decode (mB 88) 14 = .ok (.iload_n 2, 1) := by decide +kernel
theorem D88_15 : CS 88 15 69 2 := ⟨.invokestatic 139, by decide +kernel, by decide +kernel, by decide +kernel, by decide⟩
theorem D88_18 : BR 88 18 (.ifCond .eq 33) (33) 51 := ⟨by decide +kernel, by decide, by decide⟩
theorem D88_21 : decode (mB 88) 21 = .ok (.iload_n 3, 1) := by decide +kernel
theorem D88_22 : CS 88 22 90 2 := ⟨.invokestatic 142, by decide +kernel, by decide +kernel, by decide +kernel, by decide⟩
theorem D88_25 : BR 88 25 (.ifCond .eq 26) (26) 51 := ⟨by decide +kernel, by decide, by decide⟩
theorem D88_28 : decode (mB 88) 28 = .ok (.iload 4, 2) := by decide +kernel
theorem D88_30 : CS 88 30 90 2 := ⟨.invokestatic 142, by decide +kernel, by decide +kernel, by decide +kernel, by decide⟩
theorem D88_33 : BR 88 33 (.ifCond .eq 18) (18) 51 := ⟨by decide +kernel, by decide, by decide⟩
theorem D88_36 : decode (mB 88) 36 = .ok (.aload_n 0, 1) := by decide +kernel
theorem D88_37 : GF 88 37 9 2 2 := ⟨26, true, by decide +kernel, by decide +kernel⟩
theorem D88_40 : GF 88 40 6 3 2 := ⟨145, true, by decide +kernel, by decide +kernel⟩
theorem D88_43 : CS 88 43 91 0 := ⟨.invokevirtual 149, by decide +kernel, by decide +kernel, by decide +kernel, by decide⟩
theorem D88_46 : decode (mB 88) 46 = .ok (.bipush 12, 2) := by decide +kernel
theorem D88_48 : BR 88 48 (.if_icmp .lt 5) (5) 53 := ⟨by decide +kernel, by decide, by decide⟩
theorem D88_53 : decode (mB 88) 53 = .ok (.aload_n 0, 1) := by decide +kernel
theorem D88_54 : GF 88 54 9 2 2 := ⟨26, true, by decide +kernel, by decide +kernel⟩
theorem D88_57 : GF 88 57 6 3 2 := ⟨145, true, by decide +kernel, by decide +kernel⟩
theorem D88_60 : decode (mB 88) 60 = .ok (.iload_n 1, 1) := by decide +kernel
theorem D88_61 : decode (mB 88) 61 = .ok (.iload_n 2, 1) := by decide +kernel
theorem D88_62 : decode (mB 88) 62 = .ok (.iload_n 3, 1) := by decide +kernel
theorem D88_63 : decode (mB 88) 63 = .ok (.iload 4, 2) := by decide +kernel
theorem D88_65 : CS 88 65 92 0 := ⟨.invokevirtual 152, by decide +kernel, by decide +kernel, by decide +kernel, by decide⟩
theorem D88_68 : decode (mB 88) 68 = .ok (.ireturn, 1) := by decide +kernel
theorem LC_look_e (d : Nat) (a0 : Nat) (x1 : Int32) (x2 : Int32) (x3 : Int32) (x4 : Int32) (m : eM) (h_a0 : kd a0 = 9) : LC_look (d + 1) a0 x1 x2 x3 x4 m = bR (gR m a0 2) fun r1 => gd r1 6 (bR (gR m r1 0) fun r3 => gd r3 4 (bI (Pa_isThere d r3 x1 m) fun v6 m5 => if v6 = 0 then (yI (-1 : Int32) m5) else (bI (LC_isMinute d x2 m5) fun v8 m7 => if v8 = 0 then (yI (-1 : Int32) m7) else (bI (LC_isBearing d x3 m7) fun v10 m9 => if v10 = 0 then (yI (-1 : Int32) m9) else (bI (LC_isBearing d x4 m9) fun v12 m11 => if v12 = 0 then (yI (-1 : Int32) m11) else (bR (gR m11 a0 2) fun r13 => gd r13 6 (bR (gR m11 r13 3) fun r15 => gd r15 3 (bI (Lo_size d r15 m11) fun v18 m17 => if v18 < (12 : Int32) then (bR (gR m17 a0 2) fun r19 => gd r19 6 (bR (gR m17 r19 3) fun r21 => gd r21 3 (bI (Lo_add d r21 x1 x2 x3 x4 m17) fun v24 m23 => yI v24 m23))) else (yI (-1 : Int32) m17))))))))) := by
  unfold LC_look
  refine (x_aload1 D88_0 rfl).trans ?_
  refine ((x_getR D88_1).trans (gd_t h_a0)).trans (bR_c fun r1 => ?_)
  refine (x_getR D88_4).trans (gd_c fun h2 => bR_c fun r3 => ?_)
  refine (x_iload1 D88_7 rfl).trans ?_
  refine (x_cg D88_8 M89 rfl rfl).trans (gd_c fun h4 => ?_)
  refine (x_cI D88_8 M89 (fun z => by cases z) (I89 _ _) rfl rfl (ok_i M89 (I89 _ _) rfl rfl h4)).trans (bI_c fun v6 m5 => ?_)
  refine (x_ifeq D88_11).trans (i_c ?_ ?_)
  · refine (x_iconst D88_51 (k := -1) (by decide)).trans ?_
    exact x_iret D88_52 M88.2.2.1
  · refine (x_iload1 D88_14 rfl).trans ?_
    refine (x_cI D88_15 M69 (fun z => by cases z) (I69 _) rfl rfl (ok_s M69 (I69 _) rfl rfl)).trans (bI_c fun v8 m7 => ?_)
    refine (x_ifeq D88_18).trans (i_c ?_ ?_)
    · refine (x_iconst D88_51 (k := -1) (by decide)).trans ?_
      exact x_iret D88_52 M88.2.2.1
    · refine (x_iload1 D88_21 rfl).trans ?_
      refine (x_cI D88_22 M90 (fun z => by cases z) (I90 _) rfl rfl (ok_s M90 (I90 _) rfl rfl)).trans (bI_c fun v10 m9 => ?_)
      refine (x_ifeq D88_25).trans (i_c ?_ ?_)
      · refine (x_iconst D88_51 (k := -1) (by decide)).trans ?_
        exact x_iret D88_52 M88.2.2.1
      · refine (x_iload2 D88_28 rfl).trans ?_
        refine (x_cI D88_30 M90 (fun z => by cases z) (I90 _) rfl rfl (ok_s M90 (I90 _) rfl rfl)).trans (bI_c fun v12 m11 => ?_)
        refine (x_ifeq D88_33).trans (i_c ?_ ?_)
        · refine (x_iconst D88_51 (k := -1) (by decide)).trans ?_
          exact x_iret D88_52 M88.2.2.1
        · refine (x_aload1 D88_36 rfl).trans ?_
          refine ((x_getR D88_37).trans (gd_t h_a0)).trans (bR_c fun r13 => ?_)
          refine (x_getR D88_40).trans (gd_c fun h14 => bR_c fun r15 => ?_)
          refine (x_cg D88_43 M91 rfl rfl).trans (gd_c fun h16 => ?_)
          refine (x_cI D88_43 M91 (fun z => by cases z) (I91 _) rfl rfl (ok_i M91 (I91 _) rfl rfl h16)).trans (bI_c fun v18 m17 => ?_)
          refine (x_bipush D88_46 (k := 12) (by decide)).trans ?_
          refine (x_clt D88_48).trans (i_c ?_ ?_)
          · refine (x_aload1 D88_53 rfl).trans ?_
            refine ((x_getR D88_54).trans (gd_t h_a0)).trans (bR_c fun r19 => ?_)
            refine (x_getR D88_57).trans (gd_c fun h20 => bR_c fun r21 => ?_)
            refine (x_iload1 D88_60 rfl).trans ?_
            refine (x_iload1 D88_61 rfl).trans ?_
            refine (x_iload1 D88_62 rfl).trans ?_
            refine (x_iload2 D88_63 rfl).trans ?_
            refine (x_cg D88_65 M92 rfl rfl).trans (gd_c fun h22 => ?_)
            refine (x_cI D88_65 M92 (fun z => by cases z) (I92 _ _ _ _ _) rfl rfl (ok_i M92 (I92 _ _ _ _ _) rfl rfl h22)).trans (bI_c fun v24 m23 => ?_)
            exact x_iret D88_68 M88.2.2.1
          · refine (x_iconst D88_51 (k := -1) (by decide)).trans ?_
            exact x_iret D88_52 M88.2.2.1
theorem D90_0 : decode (mB 90) 0 = .ok (.iload_n 0, 1) := by decide +kernel
theorem D90_1 : BR 90 1 (.ifCond .lt 14) (14) 15 := ⟨by decide +kernel, by decide, by decide⟩
theorem D90_15 : decode (mB 90) 15 = .ok (.iconst 0, 1) := by decide +kernel
theorem D90_16 : decode (mB 90) 16 = .ok (.ireturn, 1) := by decide +kernel
theorem D90_4 : decode (mB 90) 4 = .ok (.iload_n 0, 1) := by decide +kernel
theorem D90_5 : decode (mB 90) 5 = .ok (.sipush 359, 3) := by decide +kernel
theorem D90_8 : BR 90 8 (.if_icmp .gt 7) (7) 15 := ⟨by decide +kernel, by decide, by decide⟩
theorem D90_11 : decode (mB 90) 11 = .ok (.iconst 1, 1) := by decide +kernel
theorem D90_12 : BR 90 12 (.goto 4) (4) 16 := ⟨by decide +kernel, by decide, by decide⟩
theorem LC_isBearing_e (d : Nat) (x0 : Int32) (m : eM)  : LC_isBearing d x0 m = if x0 < 0 then (yI (0 : Int32) m) else (if (359 : Int32) < x0 then (yI (0 : Int32) m) else (yI (1 : Int32) m)) := by
  unfold LC_isBearing
  refine (x_iload1 D90_0 rfl).trans ?_
  refine (x_iflt D90_1).trans (i_c ?_ ?_)
  · refine (x_iconst D90_15 (k := 0) (by decide)).trans ?_
    exact (x_bret D90_16 M90.2.2.1).trans yB0
  · refine (x_iload1 D90_4 rfl).trans ?_
    refine (x_sipush D90_5 (k := 359) (by decide)).trans ?_
    refine (x_cgt D90_8).trans (i_c ?_ ?_)
    · refine (x_iconst D90_15 (k := 0) (by decide)).trans ?_
      exact (x_bret D90_16 M90.2.2.1).trans yB0
    · refine (x_iconst D90_11 (k := 1) (by decide)).trans ?_
      refine (x_goto D90_12).trans ?_
      exact (x_bret D90_16 M90.2.2.1).trans yB1
theorem D93_0 : decode (mB 93) 0 = .ok (.aload_n 0, 1) := by decide +kernel
theorem D93_1 : GF 93 1 9 2 2 := ⟨26, true, by decide +kernel, by decide +kernel⟩
theorem D93_4 : GF 93 4 6 0 2 := ⟨124, false, by decide +kernel, by decide +kernel⟩
theorem D93_7 : decode (mB 93) 7 = .ok (.iload_n 1, 1) := by decide +kernel
theorem D93_8 : CS 93 8 89 0 := ⟨.invokevirtual 136, by decide +kernel, by decide +kernel, by decide +kernel, by decide⟩
theorem D93_11 : BR 93 11 (.ifCond .eq 24) (24) 35 := ⟨by decide +kernel, by decide, by decide⟩
theorem D93_35 : decode (mB 93) 35 = .ok (.iconst (-1), 1) := by decide +kernel
theorem D93_36 : decode (mB 93) 36 = .ok (.ireturn, 1) := by decide +kernel
theorem D93_14 : decode (mB 93) 14 = .ok (.iload_n 2, 1) := by decide +kernel
theorem D93_15 : CS 93 15 69 2 := ⟨.invokestatic 139, by decide +kernel, by decide +kernel, by decide +kernel, by decide⟩
theorem D93_18 : BR 93 18 (.ifCond .eq 17) (17) 35 := ⟨by decide +kernel, by decide, by decide⟩
theorem D93_21 : decode (mB 93) 21 = .ok (.aload_n 0, 1) := by decide +kernel
theorem D93_22 : GF 93 22 9 2 2 := ⟨26, true, by decide +kernel, by decide +kernel⟩
theorem D93_25 : GF 93 25 6 4 2 := ⟨156, true, by decide +kernel, by decide +kernel⟩
theorem D93_28 : CS 93 28 91 0 := ⟨.invokevirtual 149, by decide +kernel, by decide +kernel, by decide +kernel, by decide⟩
theorem D93_31 : decode (mB 93) 31 = .ok (.iconst 4, 1) := by decide +kernel
theorem D93_32 : BR 93 32 (.if_icmp .lt 5) (5) 37 := ⟨by decide +kernel, by decide, by decide⟩
theorem D93_37 : decode (mB 93) 37 = .ok (.aload_n 0, 1) := by decide +kernel
theorem D93_38 : GF 93 38 9 2 2 := ⟨26, true, by decide +kernel, by decide +kernel⟩
theorem D93_41 : GF 93 41 6 4 2 := ⟨156, true, by decide +kernel, by decide +kernel⟩
theorem D93_44 : decode (mB 93) 44 = .ok (.iload_n 1, 1) := by decide +kernel
theorem D93_45 : decode (mB 93) 45 = .ok (.iload_n 2, 1) := by decide +kernel
theorem D93_46 : decode (mB 93) 46 = .ok (.iconst 0, 1) := by decide +kernel
theorem D93_47 : decode (mB 93) 47 = .ok (.iconst 0, 1) := by decide +kernel
theorem D93_48 : CS 93 48 92 0 := ⟨.invokevirtual 152, by decide +kernel, by decide +kernel, by decide +kernel, by decide⟩
theorem D93_51 : decode (mB 93) 51 = .ok (.ireturn, 1) := by decide +kernel
theorem LC_watch_e (d : Nat) (a0 : Nat) (x1 : Int32) (x2 : Int32) (m : eM) (h_a0 : kd a0 = 9) : LC_watch (d + 1) a0 x1 x2 m = bR (gR m a0 2) fun r1 => gd r1 6 (bR (gR m r1 0) fun r3 => gd r3 4 (bI (Pa_isThere d r3 x1 m) fun v6 m5 => if v6 = 0 then (yI (-1 : Int32) m5) else (bI (LC_isMinute d x2 m5) fun v8 m7 => if v8 = 0 then (yI (-1 : Int32) m7) else (bR (gR m7 a0 2) fun r9 => gd r9 6 (bR (gR m7 r9 4) fun r11 => gd r11 3 (bI (Lo_size d r11 m7) fun v14 m13 => if v14 < (4 : Int32) then (bR (gR m13 a0 2) fun r15 => gd r15 6 (bR (gR m13 r15 4) fun r17 => gd r17 3 (bI (Lo_add d r17 x1 x2 (0 : Int32) (0 : Int32) m13) fun v20 m19 => yI v20 m19))) else (yI (-1 : Int32) m13))))))) := by
  unfold LC_watch
  refine (x_aload1 D93_0 rfl).trans ?_
  refine ((x_getR D93_1).trans (gd_t h_a0)).trans (bR_c fun r1 => ?_)
  refine (x_getR D93_4).trans (gd_c fun h2 => bR_c fun r3 => ?_)
  refine (x_iload1 D93_7 rfl).trans ?_
  refine (x_cg D93_8 M89 rfl rfl).trans (gd_c fun h4 => ?_)
  refine (x_cI D93_8 M89 (fun z => by cases z) (I89 _ _) rfl rfl (ok_i M89 (I89 _ _) rfl rfl h4)).trans (bI_c fun v6 m5 => ?_)
  refine (x_ifeq D93_11).trans (i_c ?_ ?_)
  · refine (x_iconst D93_35 (k := -1) (by decide)).trans ?_
    exact x_iret D93_36 M93.2.2.1
  · refine (x_iload1 D93_14 rfl).trans ?_
    refine (x_cI D93_15 M69 (fun z => by cases z) (I69 _) rfl rfl (ok_s M69 (I69 _) rfl rfl)).trans (bI_c fun v8 m7 => ?_)
    refine (x_ifeq D93_18).trans (i_c ?_ ?_)
    · refine (x_iconst D93_35 (k := -1) (by decide)).trans ?_
      exact x_iret D93_36 M93.2.2.1
    · refine (x_aload1 D93_21 rfl).trans ?_
      refine ((x_getR D93_22).trans (gd_t h_a0)).trans (bR_c fun r9 => ?_)
      refine (x_getR D93_25).trans (gd_c fun h10 => bR_c fun r11 => ?_)
      refine (x_cg D93_28 M91 rfl rfl).trans (gd_c fun h12 => ?_)
      refine (x_cI D93_28 M91 (fun z => by cases z) (I91 _) rfl rfl (ok_i M91 (I91 _) rfl rfl h12)).trans (bI_c fun v14 m13 => ?_)
      refine (x_iconst D93_31 (k := 4) (by decide)).trans ?_
      refine (x_clt D93_32).trans (i_c ?_ ?_)
      · refine (x_aload1 D93_37 rfl).trans ?_
        refine ((x_getR D93_38).trans (gd_t h_a0)).trans (bR_c fun r15 => ?_)
        refine (x_getR D93_41).trans (gd_c fun h16 => bR_c fun r17 => ?_)
        refine (x_iload1 D93_44 rfl).trans ?_
        refine (x_iload1 D93_45 rfl).trans ?_
        refine (x_iconst D93_46 (k := 0) (by decide)).trans ?_
        refine (x_iconst D93_47 (k := 0) (by decide)).trans ?_
        refine (x_cg D93_48 M92 rfl rfl).trans (gd_c fun h18 => ?_)
        refine (x_cI D93_48 M92 (fun z => by cases z) (I92 _ _ _ _ _) rfl rfl (ok_i M92 (I92 _ _ _ _ _) rfl rfl h18)).trans (bI_c fun v20 m19 => ?_)
        exact x_iret D93_51 M93.2.2.1
      · refine (x_iconst D93_35 (k := -1) (by decide)).trans ?_
        exact x_iret D93_36 M93.2.2.1
theorem D94_0 : decode (mB 94) 0 = .ok (.aload_n 0, 1) := by decide +kernel
theorem D94_1 : GF 94 1 9 2 2 := ⟨26, true, by decide +kernel, by decide +kernel⟩
theorem D94_4 : GF 94 4 6 0 2 := ⟨124, false, by decide +kernel, by decide +kernel⟩
theorem D94_7 : decode (mB 94) 7 = .ok (.iload_n 1, 1) := by decide +kernel
theorem D94_8 : CS 94 8 87 0 := ⟨.invokevirtual 128, by decide +kernel, by decide +kernel, by decide +kernel, by decide⟩
theorem D94_11 : BR 94 11 (.ifCond .ne 5) (5) 16 := ⟨by decide +kernel, by decide, by decide⟩
theorem D94_16 : decode (mB 94) 16 = .ok (.aload_n 0, 1) := by decide +kernel
theorem D94_17 : GF 94 17 9 2 2 := ⟨26, true, by decide +kernel, by decide +kernel⟩
theorem D94_20 : GF 94 20 6 0 2 := ⟨124, false, by decide +kernel, by decide +kernel⟩
theorem D94_23 : CS 94 23 95 0 := ⟨.invokevirtual 159, by decide +kernel, by decide +kernel, by decide +kernel, by decide⟩
theorem D94_26 : decode (mB 94) 26 = .ok (.iload_n 1, 1) := by decide +kernel
theorem D94_27 : CS 94 27 96 2 := ⟨.invokestatic 163, by decide +kernel, by decide +kernel, by decide +kernel, by decide⟩
theorem D94_30 : BR 94 30 (.ifCond .ne 5) (5) 35 := ⟨by decide +kernel, by decide, by decide⟩
theorem D94_35 : decode (mB 94) 35 = .ok (.aload_n 0, 1) := by decide +kernel
theorem D94_36 : CS 94 36 97 0 := ⟨.invokevirtual 167, by decide +kernel, by decide +kernel, by decide +kernel, by decide⟩
theorem D94_39 : decode (mB 94) 39 = .ok (.iload_n 1, 1) := by decide +kernel
theorem D94_40 : CS 94 40 96 2 := ⟨.invokestatic 163, by decide +kernel, by decide +kernel, by decide +kernel, by decide⟩
theorem D94_43 : BR 94 43 (.ifCond .eq 7) (7) 50 := ⟨by decide +kernel, by decide, by decide⟩
theorem D94_50 : decode (mB 94) 50 = .ok (.iconst 1, 1) := by decide +kernel
theorem D94_51 : decode (mB 94) 51 = .ok (.ireturn, 1) := by decide +kernel
theorem D94_46 : decode (mB 94) 46 = .ok (.iconst 2, 1) := by decide +kernel
theorem D94_47 : BR 94 47 (.goto 4) (4) 51 := ⟨by decide +kernel, by decide, by decide⟩
theorem D94_33 : decode (mB 94) 33 = .ok (.iconst 0, 1) := by decide +kernel
theorem D94_34 : decode (mB 94) 34 = .ok (.ireturn, 1) := by decide +kernel
theorem D94_14 : decode (mB 94) 14 = .ok (.iconst (-1), 1) := by decide +kernel
theorem D94_15 : decode (mB 94) 15 = .ok (.ireturn, 1) := by decide +kernel
theorem LC_world_e (d : Nat) (a0 : Nat) (x1 : Int32) (m : eM) (h_a0 : kd a0 = 9) : LC_world (d + 1) a0 x1 m = bR (gR m a0 2) fun r1 => gd r1 6 (bR (gR m r1 0) fun r3 => gd r3 4 (bI (Pa_isWorld d r3 x1 m) fun v6 m5 => if ¬ v6 = 0 then (bR (gR m5 a0 2) fun r7 => gd r7 6 (bR (gR m5 r7 0) fun r9 => gd r9 4 (bL (Pa_commonWorlds d r9 m5) fun v12 m11 => bI (LC_holds d v12 x1 m11) fun v14 m13 => if ¬ v14 = 0 then (bL (LC_possible d a0 m13) fun v16 m15 => bI (LC_holds d v16 x1 m15) fun v18 m17 => if v18 = 0 then (yI (1 : Int32) m17) else (yI (2 : Int32) m17)) else (yI (0 : Int32) m13)))) else (yI (-1 : Int32) m5))) := by
  unfold LC_world
  refine (x_aload1 D94_0 rfl).trans ?_
  refine ((x_getR D94_1).trans (gd_t h_a0)).trans (bR_c fun r1 => ?_)
  refine (x_getR D94_4).trans (gd_c fun h2 => bR_c fun r3 => ?_)
  refine (x_iload1 D94_7 rfl).trans ?_
  refine (x_cg D94_8 M87 rfl rfl).trans (gd_c fun h4 => ?_)
  refine (x_cI D94_8 M87 (fun z => by cases z) (I87 _ _) rfl rfl (ok_i M87 (I87 _ _) rfl rfl h4)).trans (bI_c fun v6 m5 => ?_)
  refine (x_ifne D94_11).trans (i_c ?_ ?_)
  · refine (x_aload1 D94_16 rfl).trans ?_
    refine ((x_getR D94_17).trans (gd_t h_a0)).trans (bR_c fun r7 => ?_)
    refine (x_getR D94_20).trans (gd_c fun h8 => bR_c fun r9 => ?_)
    refine (x_cg D94_23 M95 rfl rfl).trans (gd_c fun h10 => ?_)
    refine (x_cL D94_23 M95  (I95 _) rfl rfl (ok_i M95 (I95 _) rfl rfl h10)).trans (bL_c fun v12 m11 => ?_)
    refine (x_iload1 D94_26 rfl).trans ?_
    refine (x_cI D94_27 M96 (fun z => by cases z) (I96 _ _) rfl rfl (ok_s M96 (I96 _ _) rfl rfl)).trans (bI_c fun v14 m13 => ?_)
    refine (x_ifne D94_30).trans (i_c ?_ ?_)
    · refine (x_aload1 D94_35 rfl).trans ?_
      refine (x_cL D94_36 M97  (I97 _) rfl rfl (ok_i M97 (I97 _) rfl rfl h_a0)).trans (bL_c fun v16 m15 => ?_)
      refine (x_iload1 D94_39 rfl).trans ?_
      refine (x_cI D94_40 M96 (fun z => by cases z) (I96 _ _) rfl rfl (ok_s M96 (I96 _ _) rfl rfl)).trans (bI_c fun v18 m17 => ?_)
      refine (x_ifeq D94_43).trans (i_c ?_ ?_)
      · refine (x_iconst D94_50 (k := 1) (by decide)).trans ?_
        exact x_iret D94_51 M94.2.2.1
      · refine (x_iconst D94_46 (k := 2) (by decide)).trans ?_
        refine (x_goto D94_47).trans ?_
        exact x_iret D94_51 M94.2.2.1
    · refine (x_iconst D94_33 (k := 0) (by decide)).trans ?_
      exact x_iret D94_34 M94.2.2.1
  · refine (x_iconst D94_14 (k := -1) (by decide)).trans ?_
    exact x_iret D94_15 M94.2.2.1
theorem D96_0 : decode (mB 96) 0 = .ok (.lload_n 0, 1) := by decide +kernel
theorem D96_1 : decode (mB 96) 1 = .ok (.iload_n 2, 1) := by decide +kernel
theorem D96_2 : decode (mB 96) 2 = .ok (.lushr, 1) := by decide +kernel
theorem D96_3 : decode (mB 96) 3 = .ok (.lconst 1, 1) := by decide +kernel
theorem D96_4 : decode (mB 96) 4 = .ok (.land, 1) := by decide +kernel
theorem D96_5 : decode (mB 96) 5 = .ok (.lconst 1, 1) := by decide +kernel
theorem D96_6 : decode (mB 96) 6 = .ok (.lcmp, 1) := by decide +kernel
theorem D96_7 : BR 96 7 (.ifCond .ne 7) (7) 14 := ⟨by decide +kernel, by decide, by decide⟩
theorem D96_14 : decode (mB 96) 14 = .ok (.iconst 0, 1) := by decide +kernel
theorem D96_15 : decode (mB 96) 15 = .ok (.ireturn, 1) := by decide +kernel
theorem D96_10 : decode (mB 96) 10 = .ok (.iconst 1, 1) := by decide +kernel
theorem D96_11 : BR 96 11 (.goto 4) (4) 15 := ⟨by decide +kernel, by decide, by decide⟩
theorem LC_holds_e (d : Nat) (y0 : Int64) (x2 : Int32) (m : eM)  : LC_holds d y0 x2 m = if ¬ (lg_cmp (((y0.toUInt64 >>> (x2.toInt64.toUInt64 &&& Int64.toUInt64 63)).toInt64) &&& (1 : Int64)) (1 : Int64)) = 0 then (yI (0 : Int32) m) else (yI (1 : Int32) m) := by
  unfold LC_holds
  refine (x_lload1 D96_0 rfl).trans ?_
  refine (x_iload1 D96_1 rfl).trans ?_
  refine (x_lushr D96_2).trans ?_
  refine (x_lconst1 D96_3).trans ?_
  refine (x_land D96_4).trans ?_
  refine (x_lconst1 D96_5).trans ?_
  refine (x_lcmp D96_6).trans ?_
  refine (x_ifne D96_7).trans (i_c ?_ ?_)
  · refine (x_iconst D96_14 (k := 0) (by decide)).trans ?_
    exact (x_bret D96_15 M96.2.2.1).trans yB0
  · refine (x_iconst D96_10 (k := 1) (by decide)).trans ?_
    refine (x_goto D96_11).trans ?_
    exact (x_bret D96_15 M96.2.2.1).trans yB1
theorem D97_0 : decode (mB 97) 0 = .ok (.aload_n 0, 1) := by decide +kernel
theorem D97_1 : GF 97 1 9 2 2 := ⟨26, true, by decide +kernel, by decide +kernel⟩
theorem D97_4 : GF 97 4 6 0 2 := ⟨124, false, by decide +kernel, by decide +kernel⟩
theorem D97_7 : CS 97 7 95 0 := ⟨.invokevirtual 159, by decide +kernel, by decide +kernel, by decide +kernel, by decide⟩
theorem D97_10 : decode (mB 97) 10 = .ok (.lstore_n 1, 1) := by decide +kernel
theorem D97_11 : decode (mB 97) 11 = .ok (.iconst 0, 1) := by decide +kernel
theorem D97_12 : decode (mB 97) 12 = .ok (.istore_n 3, 1) := by decide +kernel
theorem D97_13 : decode (mB 97) 13 = .ok (.iload_n 3, 1) := by decide +kernel
theorem D97_14 : decode (mB 97) 14 = .ok (.aload_n 0, 1) := by decide +kernel
theorem D97_15 : GF 97 15 9 2 2 := ⟨26, true, by decide +kernel, by decide +kernel⟩
theorem D97_18 : GF 97 18 6 3 2 := ⟨145, true, by decide +kernel, by decide +kernel⟩
theorem D97_21 : CS 97 21 91 0 := ⟨.invokevirtual 149, by decide +kernel, by decide +kernel, by decide +kernel, by decide⟩
theorem D97_24 : BR 97 24 (.if_icmp .ge 23) (23) 47 := ⟨by decide +kernel, by decide, by decide⟩
theorem D97_47 : decode (mB 97) 47 = .ok (.lload_n 1, 1) := by decide +kernel
theorem D97_48 : decode (mB 97) 48 = .ok (.lreturn, 1) := by decide +kernel
theorem D97_27 : decode (mB 97) 27 = .ok (.lload_n 1, 1) := by decide +kernel
theorem D97_28 : decode (mB 97) 28 = .ok (.lconst 0, 1) := by decide +kernel
theorem D97_29 : decode (mB 97) 29 = .ok (.lcmp, 1) := by decide +kernel
theorem D97_30 : BR 97 30 (.ifCond .eq 17) (17) 47 := ⟨by decide +kernel, by decide, by decide⟩
theorem D97_33 : decode (mB 97) 33 = .ok (.lload_n 1, 1) := by decide +kernel
theorem D97_34 : decode (mB 97) 34 = .ok (.aload_n 0, 1) := by decide +kernel
theorem D97_35 : decode (mB 97) 35 = .ok (.iload_n 3, 1) := by decide +kernel
theorem D97_36 : CS 97 36 98 0 := ⟨.invokevirtual 273, by decide +kernel, by decide +kernel, by decide +kernel, by decide⟩
theorem D97_39 : decode (mB 97) 39 = .ok (.land, 1) := by decide +kernel
theorem D97_40 : decode (mB 97) 40 = .ok (.lstore_n 1, 1) := by decide +kernel
theorem D97_41 : decode (mB 97) 41 = .ok (.iinc 3 1, 3) := by decide +kernel
theorem D97_44 : BR 97 44 (.goto (-31)) (-31) 13 := ⟨by decide +kernel, by decide, by decide⟩
theorem LC_possible_e (d : Nat) (a0 : Nat) (m : eM) (h_a0 : kd a0 = 9) : LC_possible (d + 1) a0 m = bR (gR m a0 2) fun r1 => gd r1 6 (bR (gR m r1 0) fun r3 => gd r3 4 (bL (Pa_commonWorlds d r3 m) fun v6 m5 => LC_possible_13 (d + 1) a0 v6 (0 : Int32) m5)) := by
  unfold LC_possible
  refine (x_aload1 D97_0 rfl).trans ?_
  refine ((x_getR D97_1).trans (gd_t h_a0)).trans (bR_c fun r1 => ?_)
  refine (x_getR D97_4).trans (gd_c fun h2 => bR_c fun r3 => ?_)
  refine (x_cg D97_7 M95 rfl rfl).trans (gd_c fun h4 => ?_)
  refine (x_cL D97_7 M95  (I95 _) rfl rfl (ok_i M95 (I95 _) rfl rfl h4)).trans (bL_c fun v6 m5 => ?_)
  refine (x_lstore1 D97_10 (ls' := [.ref a0, .long v6, eU, eU]) rfl rfl).trans ?_
  refine (x_iconst D97_11 (k := 0) (by decide)).trans ?_
  refine (x_istore1 D97_12 (ls' := [.ref a0, .long v6, eU, .int (0 : Int32)]) rfl rfl).trans ?_
  rfl
theorem LC_possible_13_e (d : Nat) (a0 : Nat) (y1 : Int64) (x3 : Int32) (m : eM) (h_a0 : kd a0 = 9) : LC_possible_13 (d + 1) a0 y1 x3 m = bR (gR m a0 2) fun r1 => gd r1 6 (bR (gR m r1 3) fun r3 => gd r3 3 (bI (Lo_size d r3 m) fun v6 m5 => if v6 ≤ x3 then (yL y1 m5) else (if (lg_cmp y1 (0 : Int64)) = 0 then (yL y1 m5) else (bL (LC_fitting d a0 x3 m5) fun v8 m7 => LC_possible_13 (d + 1) a0 (y1 &&& v8) (x3 + (1 : Int32)) m7)))) := by
  unfold LC_possible_13
  refine (x_iload1 D97_13 rfl).trans ?_
  refine (x_aload1 D97_14 rfl).trans ?_
  refine ((x_getR D97_15).trans (gd_t h_a0)).trans (bR_c fun r1 => ?_)
  refine (x_getR D97_18).trans (gd_c fun h2 => bR_c fun r3 => ?_)
  refine (x_cg D97_21 M91 rfl rfl).trans (gd_c fun h4 => ?_)
  refine (x_cI D97_21 M91 (fun z => by cases z) (I91 _) rfl rfl (ok_i M91 (I91 _) rfl rfl h4)).trans (bI_c fun v6 m5 => ?_)
  refine (x_cge D97_24).trans (i_c ?_ ?_)
  · refine (x_lload1 D97_47 rfl).trans ?_
    exact x_lret D97_48 M97.2.2.1
  · refine (x_lload1 D97_27 rfl).trans ?_
    refine (x_lconst0 D97_28).trans ?_
    refine (x_lcmp D97_29).trans ?_
    refine (x_ifeq D97_30).trans (i_c ?_ ?_)
    · refine (x_lload1 D97_47 rfl).trans ?_
      exact x_lret D97_48 M97.2.2.1
    · refine (x_lload1 D97_33 rfl).trans ?_
      refine (x_aload1 D97_34 rfl).trans ?_
      refine (x_iload1 D97_35 rfl).trans ?_
      refine (x_cL D97_36 M98  (I98 _ _) rfl rfl (ok_i M98 (I98 _ _) rfl rfl h_a0)).trans (bL_c fun v8 m7 => ?_)
      refine (x_land D97_39).trans ?_
      refine (x_lstore1 D97_40 (ls' := [.ref a0, .long (y1 &&& v8), eU, .int x3]) rfl rfl).trans ?_
      refine (x_iinc D97_41 rfl (k := 1) (by decide) (ls' := [.ref a0, .long (y1 &&& v8), eU, .int (x3 + (1 : Int32))]) rfl).trans ?_
      refine (x_goto D97_44).trans ?_
      rfl
theorem D98_0 : decode (mB 98) 0 = .ok (.aload_n 0, 1) := by decide +kernel
theorem D98_1 : GF 98 1 9 2 2 := ⟨26, true, by decide +kernel, by decide +kernel⟩
theorem D98_4 : GF 98 4 6 3 2 := ⟨145, true, by decide +kernel, by decide +kernel⟩
theorem D98_7 : decode (mB 98) 7 = .ok (.astore_n 2, 1) := by decide +kernel
theorem D98_8 : decode (mB 98) 8 = .ok (.aload_n 0, 1) := by decide +kernel
theorem D98_9 : GF 98 9 9 5 2 := ⟨41, true, by decide +kernel, by decide +kernel⟩
theorem D98_12 : decode (mB 98) 12 = .ok (.aload_n 0, 1) := by decide +kernel
theorem D98_13 : GF 98 13 9 2 2 := ⟨26, true, by decide +kernel, by decide +kernel⟩
theorem D98_16 : GF 98 16 6 1 2 := ⟨108, true, by decide +kernel, by decide +kernel⟩
theorem D98_19 : decode (mB 98) 19 = .ok (.aload_n 0, 1) := by decide +kernel
theorem D98_20 : GF 98 20 9 2 2 := ⟨26, true, by decide +kernel, by decide +kernel⟩
theorem D98_23 : GF 98 23 6 0 2 := ⟨124, false, by decide +kernel, by decide +kernel⟩
theorem D98_26 : decode (mB 98) 26 = .ok (.aload_n 2, 1) := by decide +kernel
theorem D98_27 : decode (mB 98) 27 = .ok (.iload_n 1, 1) := by decide +kernel
theorem D98_28 : CS 98 28 99 0 := ⟨.invokevirtual 415, by decide +kernel, by decide +kernel, by decide +kernel, by decide⟩
theorem D98_31 : decode (mB 98) 31 = .ok (.aload_n 2, 1) := by decide +kernel
theorem D98_32 : decode (mB 98) 32 = .ok (.iload_n 1, 1) := by decide +kernel
theorem D98_33 : CS 98 33 101 0 := ⟨.invokevirtual 418, by decide +kernel, by decide +kernel, by decide +kernel, by decide⟩
theorem D98_36 : decode (mB 98) 36 = .ok (.aload_n 0, 1) := by decide +kernel
theorem D98_37 : GF 98 37 9 2 2 := ⟨26, true, by decide +kernel, by decide +kernel⟩
theorem D98_40 : GF 98 40 6 0 2 := ⟨124, false, by decide +kernel, by decide +kernel⟩
theorem D98_43 : CS 98 43 81 0 := ⟨.invokevirtual 226, by decide +kernel, by decide +kernel, by decide +kernel, by decide⟩
theorem D98_46 : CS 98 46 102 0 := ⟨.invokevirtual 255, by decide +kernel, by decide +kernel, by decide +kernel, by decide⟩
theorem D98_49 : decode (mB 98) 49 = .ok (.aload_n 0, 1) := by decide +kernel
theorem D98_50 : GF 98 50 9 5 2 := ⟨41, true, by decide +kernel, by decide +kernel⟩
theorem D98_53 : decode (mB 98) 53 = .ok (.aload_n 0, 1) := by decide +kernel
theorem D98_54 : GF 98 54 9 2 2 := ⟨26, true, by decide +kernel, by decide +kernel⟩
theorem D98_57 : GF 98 57 6 0 2 := ⟨124, false, by decide +kernel, by decide +kernel⟩
theorem D98_60 : decode (mB 98) 60 = .ok (.aload_n 2, 1) := by decide +kernel
theorem D98_61 : decode (mB 98) 61 = .ok (.iload_n 1, 1) := by decide +kernel
theorem D98_62 : CS 98 62 110 0 := ⟨.invokevirtual 419, by decide +kernel, by decide +kernel, by decide +kernel, by decide⟩
theorem D98_65 : decode (mB 98) 65 = .ok (.aload_n 2, 1) := by decide +kernel
theorem D98_66 : decode (mB 98) 66 = .ok (.iload_n 1, 1) := by decide +kernel
theorem D98_67 : CS 98 67 111 0 := ⟨.invokevirtual 422, by decide +kernel, by decide +kernel, by decide +kernel, by decide⟩
theorem D98_70 : CS 98 70 112 0 := ⟨.invokevirtual 425, by decide +kernel, by decide +kernel, by decide +kernel, by decide⟩
theorem D98_73 : decode (mB 98) 73 = .ok (.lreturn, 1) := by decide +kernel
theorem LC_fitting_e (d : Nat) (a0 : Nat) (x1 : Int32) (m : eM) (h_a0 : kd a0 = 9) : LC_fitting (d + 1) a0 x1 m = bR (gR m a0 2) fun r1 => gd r1 6 (bR (gR m r1 3) fun r3 => bR (gR m a0 5) fun r4 => bR (gR m a0 2) fun r5 => gd r5 6 (bR (gR m r5 1) fun r7 => bR (gR m a0 2) fun r8 => gd r8 6 (bR (gR m r8 0) fun r10 => gd r3 3 (bI (Lo_cock d r3 x1 m) fun v13 m12 => bI (Lo_minute d r3 x1 m12) fun v15 m14 => bR (gR m14 a0 2) fun r16 => gd r16 6 (bR (gR m14 r16 0) fun r18 => gd r18 4 (bL (Pa_allWorlds d r18 m14) fun v21 m20 => gd r4 0 (bV (Ai_take d r4 r7 r10 v13 v15 v21 m20) fun m23 => bR (gR m23 a0 5) fun r24 => bR (gR m23 a0 2) fun r25 => gd r25 6 (bR (gR m23 r25 0) fun r27 => bI (Lo_from d r3 x1 m23) fun v29 m28 => bI (Lo_to d r3 x1 m28) fun v31 m30 => gd r24 0 (bL (Ai_within d r24 r27 v29 v31 m30) fun v34 m33 => yL v34 m33))))))))) := by
  unfold LC_fitting
  refine (x_aload1 D98_0 rfl).trans ?_
  refine ((x_getR D98_1).trans (gd_t h_a0)).trans (bR_c fun r1 => ?_)
  refine (x_getR D98_4).trans (gd_c fun h2 => bR_c fun r3 => ?_)
  refine (x_astore1 D98_7 (ls' := [.ref a0, .int x1, .ref r3]) rfl rfl).trans ?_
  refine (x_aload1 D98_8 rfl).trans ?_
  refine ((x_getR D98_9).trans (gd_t h_a0)).trans (bR_c fun r4 => ?_)
  refine (x_aload1 D98_12 rfl).trans ?_
  refine ((x_getR D98_13).trans (gd_t h_a0)).trans (bR_c fun r5 => ?_)
  refine (x_getR D98_16).trans (gd_c fun h6 => bR_c fun r7 => ?_)
  refine (x_aload1 D98_19 rfl).trans ?_
  refine ((x_getR D98_20).trans (gd_t h_a0)).trans (bR_c fun r8 => ?_)
  refine (x_getR D98_23).trans (gd_c fun h9 => bR_c fun r10 => ?_)
  refine (x_aload1 D98_26 rfl).trans ?_
  refine (x_iload1 D98_27 rfl).trans ?_
  refine (x_cg D98_28 M99 rfl rfl).trans (gd_c fun h11 => ?_)
  refine (x_cI D98_28 M99 (fun z => by cases z) (I99 _ _) rfl rfl (ok_i M99 (I99 _ _) rfl rfl h11)).trans (bI_c fun v13 m12 => ?_)
  refine (x_aload1 D98_31 rfl).trans ?_
  refine (x_iload1 D98_32 rfl).trans ?_
  refine (x_cI D98_33 M101 (fun z => by cases z) (I101 _ _) rfl rfl (ok_i M101 (I101 _ _) rfl rfl h11)).trans (bI_c fun v15 m14 => ?_)
  refine (x_aload1 D98_36 rfl).trans ?_
  refine ((x_getR D98_37).trans (gd_t h_a0)).trans (bR_c fun r16 => ?_)
  refine (x_getR D98_40).trans (gd_c fun h17 => bR_c fun r18 => ?_)
  refine (x_cg D98_43 M81 rfl rfl).trans (gd_c fun h19 => ?_)
  refine (x_cL D98_43 M81  (I81 _) rfl rfl (ok_i M81 (I81 _) rfl rfl h19)).trans (bL_c fun v21 m20 => ?_)
  refine (x_cg D98_46 M102 rfl rfl).trans (gd_c fun h22 => ?_)
  refine (x_cV D98_46 M102  (I102 _ _ _ _ _ _) rfl rfl (ok_i M102 (I102 _ _ _ _ _ _) rfl rfl h22)).trans (bV_c fun m23 => ?_)
  refine (x_aload1 D98_49 rfl).trans ?_
  refine ((x_getR D98_50).trans (gd_t h_a0)).trans (bR_c fun r24 => ?_)
  refine (x_aload1 D98_53 rfl).trans ?_
  refine ((x_getR D98_54).trans (gd_t h_a0)).trans (bR_c fun r25 => ?_)
  refine (x_getR D98_57).trans (gd_c fun h26 => bR_c fun r27 => ?_)
  refine (x_aload1 D98_60 rfl).trans ?_
  refine (x_iload1 D98_61 rfl).trans ?_
  refine (x_cI D98_62 M110 (fun z => by cases z) (I110 _ _) rfl rfl (ok_i M110 (I110 _ _) rfl rfl h11)).trans (bI_c fun v29 m28 => ?_)
  refine (x_aload1 D98_65 rfl).trans ?_
  refine (x_iload1 D98_66 rfl).trans ?_
  refine (x_cI D98_67 M111 (fun z => by cases z) (I111 _ _) rfl rfl (ok_i M111 (I111 _ _) rfl rfl h11)).trans (bI_c fun v31 m30 => ?_)
  refine (x_cg D98_70 M112 rfl rfl).trans (gd_c fun h32 => ?_)
  refine (x_cL D98_70 M112  (I112 _ _ _ _) rfl rfl (ok_i M112 (I112 _ _ _ _) rfl rfl h32)).trans (bL_c fun v34 m33 => ?_)
  exact x_lret D98_73 M98.2.2.1
theorem D113_0 : decode (mB 113) 0 = .ok (.iload_n 1, 1) := by decide +kernel
theorem D113_1 : decode (mB 113) 1 = .ok (.iload_n 2, 1) := by decide +kernel
theorem D113_2 : BR 113 2 (.if_icmp .gt 21) (21) 23 := ⟨by decide +kernel, by decide, by decide⟩
theorem D113_23 : decode (mB 113) 23 = .ok (.iload_n 0, 1) := by decide +kernel
theorem D113_24 : decode (mB 113) 24 = .ok (.iload_n 1, 1) := by decide +kernel
theorem D113_25 : BR 113 25 (.if_icmp .ge 8) (8) 33 := ⟨by decide +kernel, by decide, by decide⟩
theorem D113_33 : decode (mB 113) 33 = .ok (.iconst 1, 1) := by decide +kernel
theorem D113_34 : BR 113 34 (.goto 4) (4) 38 := ⟨by decide +kernel, by decide, by decide⟩
theorem D113_38 : decode (mB 113) 38 = .ok (.ireturn, 1) := by decide +kernel
theorem D113_28 : decode (mB 113) 28 = .ok (.iload_n 0, 1) := by decide +kernel
theorem D113_29 : decode (mB 113) 29 = .ok (.iload_n 2, 1) := by decide +kernel
theorem D113_30 : BR 113 30 (.if_icmp .gt 7) (7) 37 := ⟨by decide +kernel, by decide, by decide⟩
theorem D113_37 : decode (mB 113) 37 = .ok (.iconst 0, 1) := by decide +kernel
theorem D113_5 : decode (mB 113) 5 = .ok (.iload_n 0, 1) := by decide +kernel
theorem D113_6 : decode (mB 113) 6 = .ok (.iload_n 1, 1) := by decide +kernel
theorem D113_7 : BR 113 7 (.if_icmp .lt 12) (12) 19 := ⟨by decide +kernel, by decide, by decide⟩
theorem D113_19 : decode (mB 113) 19 = .ok (.iconst 0, 1) := by decide +kernel
theorem D113_20 : BR 113 20 (.goto 18) (18) 38 := ⟨by decide +kernel, by decide, by decide⟩
theorem D113_10 : decode (mB 113) 10 = .ok (.iload_n 0, 1) := by decide +kernel
theorem D113_11 : decode (mB 113) 11 = .ok (.iload_n 2, 1) := by decide +kernel
theorem D113_12 : BR 113 12 (.if_icmp .gt 7) (7) 19 := ⟨by decide +kernel, by decide, by decide⟩
theorem D113_15 : decode (mB 113) 15 = .ok (.iconst 1, 1) := by decide +kernel
theorem D113_16 : BR 113 16 (.goto 22) (22) 38 := ⟨by decide +kernel, by decide, by decide⟩
theorem LC_isWithin_e (d : Nat) (x0 : Int32) (x1 : Int32) (x2 : Int32) (m : eM)  : LC_isWithin d x0 x1 x2 m = if x2 < x1 then (if x1 ≤ x0 then (yI (1 : Int32) m) else (if x2 < x0 then (yI (0 : Int32) m) else (yI (1 : Int32) m))) else (if x0 < x1 then (yI (0 : Int32) m) else (if x2 < x0 then (yI (0 : Int32) m) else (yI (1 : Int32) m))) := by
  unfold LC_isWithin
  refine (x_iload1 D113_0 rfl).trans ?_
  refine (x_iload1 D113_1 rfl).trans ?_
  refine (x_cgt D113_2).trans (i_c ?_ ?_)
  · refine (x_iload1 D113_23 rfl).trans ?_
    refine (x_iload1 D113_24 rfl).trans ?_
    refine (x_cge D113_25).trans (i_c ?_ ?_)
    · refine (x_iconst D113_33 (k := 1) (by decide)).trans ?_
      refine (x_goto D113_34).trans ?_
      exact (x_bret D113_38 M113.2.2.1).trans yB1
    · refine (x_iload1 D113_28 rfl).trans ?_
      refine (x_iload1 D113_29 rfl).trans ?_
      refine (x_cgt D113_30).trans (i_c ?_ ?_)
      · refine (x_iconst D113_37 (k := 0) (by decide)).trans ?_
        exact (x_bret D113_38 M113.2.2.1).trans yB0
      · refine (x_iconst D113_33 (k := 1) (by decide)).trans ?_
        refine (x_goto D113_34).trans ?_
        exact (x_bret D113_38 M113.2.2.1).trans yB1
  · refine (x_iload1 D113_5 rfl).trans ?_
    refine (x_iload1 D113_6 rfl).trans ?_
    refine (x_clt D113_7).trans (i_c ?_ ?_)
    · refine (x_iconst D113_19 (k := 0) (by decide)).trans ?_
      refine (x_goto D113_20).trans ?_
      exact (x_bret D113_38 M113.2.2.1).trans yB0
    · refine (x_iload1 D113_10 rfl).trans ?_
      refine (x_iload1 D113_11 rfl).trans ?_
      refine (x_cgt D113_12).trans (i_c ?_ ?_)
      · refine (x_iconst D113_19 (k := 0) (by decide)).trans ?_
        refine (x_goto D113_20).trans ?_
        exact (x_bret D113_38 M113.2.2.1).trans yB0
      · refine (x_iconst D113_15 (k := 1) (by decide)).trans ?_
        refine (x_goto D113_16).trans ?_
        exact (x_bret D113_38 M113.2.2.1).trans yB1
theorem D114_0 : decode (mB 114) 0 = .ok (.aload_n 0, 1) := by decide +kernel
theorem D114_1 : GF 114 1 9 2 2 := ⟨26, true, by decide +kernel, by decide +kernel⟩
theorem D114_4 : GF 114 4 6 1 2 := ⟨108, true, by decide +kernel, by decide +kernel⟩
theorem D114_7 : decode (mB 114) 7 = .ok (.iload_n 1, 1) := by decide +kernel
theorem D114_8 : CS 114 8 73 0 := ⟨.invokevirtual 170, by decide +kernel, by decide +kernel, by decide +kernel, by decide⟩
theorem D114_11 : BR 114 11 (.ifCond .eq 17) (17) 28 := ⟨by decide +kernel, by decide, by decide⟩
theorem D114_28 : decode (mB 114) 28 = .ok (.iconst (-1), 1) := by decide +kernel
theorem D114_29 : decode (mB 114) 29 = .ok (.ireturn, 1) := by decide +kernel
theorem D114_14 : decode (mB 114) 14 = .ok (.aload_n 0, 1) := by decide +kernel
theorem D114_15 : GF 114 15 9 2 2 := ⟨26, true, by decide +kernel, by decide +kernel⟩
theorem D114_18 : GF 114 18 6 0 2 := ⟨124, false, by decide +kernel, by decide +kernel⟩
theorem D114_21 : decode (mB 114) 21 = .ok (.iload_n 2, 1) := by decide +kernel
theorem D114_22 : CS 114 22 87 0 := ⟨.invokevirtual 128, by decide +kernel, by decide +kernel, by decide +kernel, by decide⟩
theorem D114_25 : BR 114 25 (.ifCond .ne 5) (5) 30 := ⟨by decide +kernel, by decide, by decide⟩
theorem D114_30 : decode (mB 114) 30 = .ok (.aload_n 0, 1) := by decide +kernel
theorem D114_31 : GF 114 31 9 2 2 := ⟨26, true, by decide +kernel, by decide +kernel⟩
theorem D114_34 : GF 114 34 6 1 2 := ⟨108, true, by decide +kernel, by decide +kernel⟩
theorem D114_37 : decode (mB 114) 37 = .ok (.iload_n 1, 1) := by decide +kernel
theorem D114_38 : CS 114 38 115 0 := ⟨.invokevirtual 173, by decide +kernel, by decide +kernel, by decide +kernel, by decide⟩
theorem D114_41 : decode (mB 114) 41 = .ok (.iload_n 2, 1) := by decide +kernel
theorem D114_42 : CS 114 42 96 2 := ⟨.invokestatic 163, by decide +kernel, by decide +kernel, by decide +kernel, by decide⟩
theorem D114_45 : BR 114 45 (.ifCond .eq 7) (7) 52 := ⟨by decide +kernel, by decide, by decide⟩
theorem D114_52 : decode (mB 114) 52 = .ok (.iconst 0, 1) := by decide +kernel
theorem D114_53 : decode (mB 114) 53 = .ok (.istore_n 3, 1) := by decide +kernel
theorem D114_54 : decode (mB 114) 54 = .ok (.iload_n 3, 1) := by decide +kernel
theorem D114_55 : decode (mB 114) 55 = .ok (.aload_n 0, 1) := by decide +kernel
theorem D114_56 : GF 114 56 9 2 2 := ⟨26, true, by decide +kernel, by decide +kernel⟩
theorem D114_59 : GF 114 59 6 1 2 := ⟨108, true, by decide +kernel, by decide +kernel⟩
theorem D114_62 : decode (mB 114) 62 = .ok (.iload_n 1, 1) := by decide +kernel
theorem D114_63 : decode (mB 114) 63 = .ok (.iconst 0, 1) := by decide +kernel
theorem D114_64 : CS 114 64 105 0 := ⟨.invokevirtual 177, by decide +kernel, by decide +kernel, by decide +kernel, by decide⟩
theorem D114_67 : decode (mB 114) 67 = .ok (.iload_n 2, 1) := by decide +kernel
theorem D114_68 : CS 114 68 96 2 := ⟨.invokestatic 163, by decide +kernel, by decide +kernel, by decide +kernel, by decide⟩
theorem D114_71 : BR 114 71 (.ifCond .eq 7) (7) 78 := ⟨by decide +kernel, by decide, by decide⟩
theorem D114_78 : decode (mB 114) 78 = .ok (.iconst 0, 1) := by decide +kernel
theorem D114_74 : decode (mB 114) 74 = .ok (.iconst 2, 1) := by decide +kernel
theorem D114_75 : BR 114 75 (.goto 4) (4) 79 := ⟨by decide +kernel, by decide, by decide⟩
theorem D114_48 : decode (mB 114) 48 = .ok (.iconst 1, 1) := by decide +kernel
theorem D114_49 : BR 114 49 (.goto 4) (4) 53 := ⟨by decide +kernel, by decide, by decide⟩
theorem D114_79 : decode (mB 114) 79 = .ok (.iadd, 1) := by decide +kernel
theorem D114_80 : decode (mB 114) 80 = .ok (.istore_n 3, 1) := by decide +kernel
theorem D114_81 : decode (mB 114) 81 = .ok (.iload_n 3, 1) := by decide +kernel
theorem D114_82 : decode (mB 114) 82 = .ok (.aload_n 0, 1) := by decide +kernel
theorem D114_83 : GF 114 83 9 2 2 := ⟨26, true, by decide +kernel, by decide +kernel⟩
theorem D114_86 : GF 114 86 6 1 2 := ⟨108, true, by decide +kernel, by decide +kernel⟩
theorem D114_89 : decode (mB 114) 89 = .ok (.iload_n 1, 1) := by decide +kernel
theorem D114_90 : decode (mB 114) 90 = .ok (.iconst 1, 1) := by decide +kernel
theorem D114_91 : CS 114 91 105 0 := ⟨.invokevirtual 177, by decide +kernel, by decide +kernel, by decide +kernel, by decide⟩
theorem D114_94 : decode (mB 114) 94 = .ok (.iload_n 2, 1) := by decide +kernel
theorem D114_95 : CS 114 95 96 2 := ⟨.invokestatic 163, by decide +kernel, by decide +kernel, by decide +kernel, by decide⟩
theorem D114_98 : BR 114 98 (.ifCond .eq 7) (7) 105 := ⟨by decide +kernel, by decide, by decide⟩
theorem D114_105 : decode (mB 114) 105 = .ok (.iconst 0, 1) := by decide +kernel
theorem D114_106 : decode (mB 114) 106 = .ok (.iadd, 1) := by decide +kernel
theorem D114_107 : decode (mB 114) 107 = .ok (.ireturn, 1) := by decide +kernel
theorem D114_101 : decode (mB 114) 101 = .ok (.iconst 4, 1) := by decide +kernel
theorem D114_102 : BR 114 102 (.goto 4) (4) 106 := ⟨by decide +kernel, by decide, by decide⟩
theorem LC_lie_e (d : Nat) (a0 : Nat) (x1 : Int32) (x2 : Int32) (m : eM) (h_a0 : kd a0 = 9) : LC_lie (d + 1) a0 x1 x2 m = bR (gR m a0 2) fun r1 => gd r1 6 (bR (gR m r1 1) fun r3 => gd r3 7 (bI (Tk_isIn d r3 x1 m) fun v6 m5 => if v6 = 0 then (yI (-1 : Int32) m5) else (bR (gR m5 a0 2) fun r7 => gd r7 6 (bR (gR m5 r7 0) fun r9 => gd r9 4 (bI (Pa_isWorld d r9 x2 m5) fun v12 m11 => if ¬ v12 = 0 then (bR (gR m11 a0 2) fun r13 => gd r13 6 (bR (gR m11 r13 1) fun r15 => gd r15 7 (bL (Tk_so d r15 x1 m11) fun v18 m17 => bI (LC_holds d v18 x2 m17) fun v20 m19 => if v20 = 0 then (bR (gR m19 a0 2) fun r21 => gd r21 6 (bR (gR m19 r21 1) fun r23 => gd r23 7 (bL (Tk_lies d r23 x1 (0 : Int32) m19) fun v26 m25 => bI (LC_holds d v26 x2 m25) fun v28 m27 => if v28 = 0 then (LC_lie_79 (d + 1) a0 x1 x2 (0 : Int32) (0 : Int32) (0 : Int32) m27) else (LC_lie_79 (d + 1) a0 x1 x2 (0 : Int32) (0 : Int32) (2 : Int32) m27)))) else (bR (gR m19 a0 2) fun r29 => gd r29 6 (bR (gR m19 r29 1) fun r31 => gd r31 7 (bL (Tk_lies d r31 x1 (0 : Int32) m19) fun v34 m33 => bI (LC_holds d v34 x2 m33) fun v36 m35 => if v36 = 0 then (LC_lie_79 (d + 1) a0 x1 x2 (1 : Int32) (1 : Int32) (0 : Int32) m35) else (LC_lie_79 (d + 1) a0 x1 x2 (1 : Int32) (1 : Int32) (2 : Int32) m35))))))) else (yI (-1 : Int32) m11)))))) := by
  unfold LC_lie
  refine (x_aload1 D114_0 rfl).trans ?_
  refine ((x_getR D114_1).trans (gd_t h_a0)).trans (bR_c fun r1 => ?_)
  refine (x_getR D114_4).trans (gd_c fun h2 => bR_c fun r3 => ?_)
  refine (x_iload1 D114_7 rfl).trans ?_
  refine (x_cg D114_8 M73 rfl rfl).trans (gd_c fun h4 => ?_)
  refine (x_cI D114_8 M73 (fun z => by cases z) (I73 _ _) rfl rfl (ok_i M73 (I73 _ _) rfl rfl h4)).trans (bI_c fun v6 m5 => ?_)
  refine (x_ifeq D114_11).trans (i_c ?_ ?_)
  · refine (x_iconst D114_28 (k := -1) (by decide)).trans ?_
    exact x_iret D114_29 M114.2.2.1
  · refine (x_aload1 D114_14 rfl).trans ?_
    refine ((x_getR D114_15).trans (gd_t h_a0)).trans (bR_c fun r7 => ?_)
    refine (x_getR D114_18).trans (gd_c fun h8 => bR_c fun r9 => ?_)
    refine (x_iload1 D114_21 rfl).trans ?_
    refine (x_cg D114_22 M87 rfl rfl).trans (gd_c fun h10 => ?_)
    refine (x_cI D114_22 M87 (fun z => by cases z) (I87 _ _) rfl rfl (ok_i M87 (I87 _ _) rfl rfl h10)).trans (bI_c fun v12 m11 => ?_)
    refine (x_ifne D114_25).trans (i_c ?_ ?_)
    · refine (x_aload1 D114_30 rfl).trans ?_
      refine ((x_getR D114_31).trans (gd_t h_a0)).trans (bR_c fun r13 => ?_)
      refine (x_getR D114_34).trans (gd_c fun h14 => bR_c fun r15 => ?_)
      refine (x_iload1 D114_37 rfl).trans ?_
      refine (x_cg D114_38 M115 rfl rfl).trans (gd_c fun h16 => ?_)
      refine (x_cL D114_38 M115  (I115 _ _) rfl rfl (ok_i M115 (I115 _ _) rfl rfl h16)).trans (bL_c fun v18 m17 => ?_)
      refine (x_iload1 D114_41 rfl).trans ?_
      refine (x_cI D114_42 M96 (fun z => by cases z) (I96 _ _) rfl rfl (ok_s M96 (I96 _ _) rfl rfl)).trans (bI_c fun v20 m19 => ?_)
      refine (x_ifeq D114_45).trans (i_c ?_ ?_)
      · refine (x_iconst D114_52 (k := 0) (by decide)).trans ?_
        refine (x_istore1 D114_53 (ls' := [.ref a0, .int x1, .int x2, .int (0 : Int32)]) rfl rfl).trans ?_
        refine (x_iload1 D114_54 rfl).trans ?_
        refine (x_aload1 D114_55 rfl).trans ?_
        refine ((x_getR D114_56).trans (gd_t h_a0)).trans (bR_c fun r21 => ?_)
        refine (x_getR D114_59).trans (gd_c fun h22 => bR_c fun r23 => ?_)
        refine (x_iload1 D114_62 rfl).trans ?_
        refine (x_iconst D114_63 (k := 0) (by decide)).trans ?_
        refine (x_cg D114_64 M105 rfl rfl).trans (gd_c fun h24 => ?_)
        refine (x_cL D114_64 M105  (I105 _ _ _) rfl rfl (ok_i M105 (I105 _ _ _) rfl rfl h24)).trans (bL_c fun v26 m25 => ?_)
        refine (x_iload1 D114_67 rfl).trans ?_
        refine (x_cI D114_68 M96 (fun z => by cases z) (I96 _ _) rfl rfl (ok_s M96 (I96 _ _) rfl rfl)).trans (bI_c fun v28 m27 => ?_)
        refine (x_ifeq D114_71).trans (i_c ?_ ?_)
        · refine (x_iconst D114_78 (k := 0) (by decide)).trans ?_
          rfl
        · refine (x_iconst D114_74 (k := 2) (by decide)).trans ?_
          refine (x_goto D114_75).trans ?_
          rfl
      · refine (x_iconst D114_48 (k := 1) (by decide)).trans ?_
        refine (x_goto D114_49).trans ?_
        refine (x_istore1 D114_53 (ls' := [.ref a0, .int x1, .int x2, .int (1 : Int32)]) rfl rfl).trans ?_
        refine (x_iload1 D114_54 rfl).trans ?_
        refine (x_aload1 D114_55 rfl).trans ?_
        refine ((x_getR D114_56).trans (gd_t h_a0)).trans (bR_c fun r29 => ?_)
        refine (x_getR D114_59).trans (gd_c fun h30 => bR_c fun r31 => ?_)
        refine (x_iload1 D114_62 rfl).trans ?_
        refine (x_iconst D114_63 (k := 0) (by decide)).trans ?_
        refine (x_cg D114_64 M105 rfl rfl).trans (gd_c fun h32 => ?_)
        refine (x_cL D114_64 M105  (I105 _ _ _) rfl rfl (ok_i M105 (I105 _ _ _) rfl rfl h32)).trans (bL_c fun v34 m33 => ?_)
        refine (x_iload1 D114_67 rfl).trans ?_
        refine (x_cI D114_68 M96 (fun z => by cases z) (I96 _ _) rfl rfl (ok_s M96 (I96 _ _) rfl rfl)).trans (bI_c fun v36 m35 => ?_)
        refine (x_ifeq D114_71).trans (i_c ?_ ?_)
        · refine (x_iconst D114_78 (k := 0) (by decide)).trans ?_
          rfl
        · refine (x_iconst D114_74 (k := 2) (by decide)).trans ?_
          refine (x_goto D114_75).trans ?_
          rfl
    · refine (x_iconst D114_28 (k := -1) (by decide)).trans ?_
      exact x_iret D114_29 M114.2.2.1
theorem LC_lie_79_e (d : Nat) (a0 : Nat) (x1 : Int32) (x2 : Int32) (x3 : Int32) (p0 : Int32) (p1 : Int32) (m : eM) (h_a0 : kd a0 = 9) : LC_lie_79 (d + 1) a0 x1 x2 x3 p0 p1 m = bR (gR m a0 2) fun r1 => gd r1 6 (bR (gR m r1 1) fun r3 => gd r3 7 (bL (Tk_lies d r3 x1 (1 : Int32) m) fun v6 m5 => bI (LC_holds d v6 x2 m5) fun v8 m7 => if v8 = 0 then (yI ((p0 + p1) + (0 : Int32)) m7) else (yI ((p0 + p1) + (4 : Int32)) m7))) := by
  unfold LC_lie_79
  refine (x_iadd D114_79).trans ?_
  refine (x_istore1 D114_80 (ls' := [.ref a0, .int x1, .int x2, .int (p0 + p1)]) rfl rfl).trans ?_
  refine (x_iload1 D114_81 rfl).trans ?_
  refine (x_aload1 D114_82 rfl).trans ?_
  refine ((x_getR D114_83).trans (gd_t h_a0)).trans (bR_c fun r1 => ?_)
  refine (x_getR D114_86).trans (gd_c fun h2 => bR_c fun r3 => ?_)
  refine (x_iload1 D114_89 rfl).trans ?_
  refine (x_iconst D114_90 (k := 1) (by decide)).trans ?_
  refine (x_cg D114_91 M105 rfl rfl).trans (gd_c fun h4 => ?_)
  refine (x_cL D114_91 M105  (I105 _ _ _) rfl rfl (ok_i M105 (I105 _ _ _) rfl rfl h4)).trans (bL_c fun v6 m5 => ?_)
  refine (x_iload1 D114_94 rfl).trans ?_
  refine (x_cI D114_95 M96 (fun z => by cases z) (I96 _ _) rfl rfl (ok_s M96 (I96 _ _) rfl rfl)).trans (bI_c fun v8 m7 => ?_)
  refine (x_ifeq D114_98).trans (i_c ?_ ?_)
  · refine (x_iconst D114_105 (k := 0) (by decide)).trans ?_
    refine (x_iadd D114_106).trans ?_
    exact x_iret D114_107 M114.2.2.1
  · refine (x_iconst D114_101 (k := 4) (by decide)).trans ?_
    refine (x_goto D114_102).trans ?_
    refine (x_iadd D114_106).trans ?_
    exact x_iret D114_107 M114.2.2.1
theorem D116_0 : decode (mB 116) 0 = .ok (.aload_n 0, 1) := by decide +kernel
theorem D116_1 : GF 116 1 9 2 2 := ⟨26, true, by decide +kernel, by decide +kernel⟩
theorem D116_4 : GF 116 4 6 0 2 := ⟨124, false, by decide +kernel, by decide +kernel⟩
theorem D116_7 : decode (mB 116) 7 = .ok (.iload_n 1, 1) := by decide +kernel
theorem D116_8 : CS 116 8 89 0 := ⟨.invokevirtual 136, by decide +kernel, by decide +kernel, by decide +kernel, by decide⟩
theorem D116_11 : BR 116 11 (.ifCond .eq 24) (24) 35 := ⟨by decide +kernel, by decide, by decide⟩
theorem D116_35 : decode (mB 116) 35 = .ok (.iconst (-1), 1) := by decide +kernel
theorem D116_36 : decode (mB 116) 36 = .ok (.ireturn, 1) := by decide +kernel
theorem D116_14 : decode (mB 116) 14 = .ok (.iload_n 2, 1) := by decide +kernel
theorem D116_15 : CS 116 15 69 2 := ⟨.invokestatic 139, by decide +kernel, by decide +kernel, by decide +kernel, by decide⟩
theorem D116_18 : BR 116 18 (.ifCond .eq 17) (17) 35 := ⟨by decide +kernel, by decide, by decide⟩
theorem D116_21 : decode (mB 116) 21 = .ok (.aload_n 0, 1) := by decide +kernel
theorem D116_22 : GF 116 22 9 2 2 := ⟨26, true, by decide +kernel, by decide +kernel⟩
theorem D116_25 : GF 116 25 6 0 2 := ⟨124, false, by decide +kernel, by decide +kernel⟩
theorem D116_28 : decode (mB 116) 28 = .ok (.iload_n 3, 1) := by decide +kernel
theorem D116_29 : CS 116 29 87 0 := ⟨.invokevirtual 128, by decide +kernel, by decide +kernel, by decide +kernel, by decide⟩
theorem D116_32 : BR 116 32 (.ifCond .ne 5) (5) 37 := ⟨by decide +kernel, by decide, by decide⟩
theorem D116_37 : decode (mB 116) 37 = .ok (.aload_n 0, 1) := by decide +kernel
theorem D116_38 : GF 116 38 9 2 2 := ⟨26, true, by decide +kernel, by decide +kernel⟩
theorem D116_41 : GF 116 41 6 1 2 := ⟨108, true, by decide +kernel, by decide +kernel⟩
theorem D116_44 : decode (mB 116) 44 = .ok (.aload_n 0, 1) := by decide +kernel
theorem D116_45 : GF 116 45 9 2 2 := ⟨26, true, by decide +kernel, by decide +kernel⟩
theorem D116_48 : GF 116 48 6 0 2 := ⟨124, false, by decide +kernel, by decide +kernel⟩
theorem D116_51 : decode (mB 116) 51 = .ok (.iload_n 1, 1) := by decide +kernel
theorem D116_52 : decode (mB 116) 52 = .ok (.iload_n 2, 1) := by decide +kernel
theorem D116_53 : decode (mB 116) 53 = .ok (.iload_n 3, 1) := by decide +kernel
theorem D116_54 : CS 116 54 117 0 := ⟨.invokevirtual 181, by decide +kernel, by decide +kernel, by decide +kernel, by decide⟩
theorem D116_57 : decode (mB 116) 57 = .ok (.ireturn, 1) := by decide +kernel
theorem LC_points_e (d : Nat) (a0 : Nat) (x1 : Int32) (x2 : Int32) (x3 : Int32) (m : eM) (h_a0 : kd a0 = 9) : LC_points (d + 1) a0 x1 x2 x3 m = bR (gR m a0 2) fun r1 => gd r1 6 (bR (gR m r1 0) fun r3 => gd r3 4 (bI (Pa_isThere d r3 x1 m) fun v6 m5 => if v6 = 0 then (yI (-1 : Int32) m5) else (bI (LC_isMinute d x2 m5) fun v8 m7 => if v8 = 0 then (yI (-1 : Int32) m7) else (bR (gR m7 a0 2) fun r9 => gd r9 6 (bR (gR m7 r9 0) fun r11 => gd r11 4 (bI (Pa_isWorld d r11 x3 m7) fun v14 m13 => if ¬ v14 = 0 then (bR (gR m13 a0 2) fun r15 => gd r15 6 (bR (gR m13 r15 1) fun r17 => bR (gR m13 a0 2) fun r18 => gd r18 6 (bR (gR m13 r18 0) fun r20 => gd r17 7 (bI (Tk_lastLiar d r17 r20 x1 x2 x3 m13) fun v23 m22 => yI v23 m22)))) else (yI (-1 : Int32) m13))))))) := by
  unfold LC_points
  refine (x_aload1 D116_0 rfl).trans ?_
  refine ((x_getR D116_1).trans (gd_t h_a0)).trans (bR_c fun r1 => ?_)
  refine (x_getR D116_4).trans (gd_c fun h2 => bR_c fun r3 => ?_)
  refine (x_iload1 D116_7 rfl).trans ?_
  refine (x_cg D116_8 M89 rfl rfl).trans (gd_c fun h4 => ?_)
  refine (x_cI D116_8 M89 (fun z => by cases z) (I89 _ _) rfl rfl (ok_i M89 (I89 _ _) rfl rfl h4)).trans (bI_c fun v6 m5 => ?_)
  refine (x_ifeq D116_11).trans (i_c ?_ ?_)
  · refine (x_iconst D116_35 (k := -1) (by decide)).trans ?_
    exact x_iret D116_36 M116.2.2.1
  · refine (x_iload1 D116_14 rfl).trans ?_
    refine (x_cI D116_15 M69 (fun z => by cases z) (I69 _) rfl rfl (ok_s M69 (I69 _) rfl rfl)).trans (bI_c fun v8 m7 => ?_)
    refine (x_ifeq D116_18).trans (i_c ?_ ?_)
    · refine (x_iconst D116_35 (k := -1) (by decide)).trans ?_
      exact x_iret D116_36 M116.2.2.1
    · refine (x_aload1 D116_21 rfl).trans ?_
      refine ((x_getR D116_22).trans (gd_t h_a0)).trans (bR_c fun r9 => ?_)
      refine (x_getR D116_25).trans (gd_c fun h10 => bR_c fun r11 => ?_)
      refine (x_iload1 D116_28 rfl).trans ?_
      refine (x_cg D116_29 M87 rfl rfl).trans (gd_c fun h12 => ?_)
      refine (x_cI D116_29 M87 (fun z => by cases z) (I87 _ _) rfl rfl (ok_i M87 (I87 _ _) rfl rfl h12)).trans (bI_c fun v14 m13 => ?_)
      refine (x_ifne D116_32).trans (i_c ?_ ?_)
      · refine (x_aload1 D116_37 rfl).trans ?_
        refine ((x_getR D116_38).trans (gd_t h_a0)).trans (bR_c fun r15 => ?_)
        refine (x_getR D116_41).trans (gd_c fun h16 => bR_c fun r17 => ?_)
        refine (x_aload1 D116_44 rfl).trans ?_
        refine ((x_getR D116_45).trans (gd_t h_a0)).trans (bR_c fun r18 => ?_)
        refine (x_getR D116_48).trans (gd_c fun h19 => bR_c fun r20 => ?_)
        refine (x_iload1 D116_51 rfl).trans ?_
        refine (x_iload1 D116_52 rfl).trans ?_
        refine (x_iload1 D116_53 rfl).trans ?_
        refine (x_cg D116_54 M117 rfl rfl).trans (gd_c fun h21 => ?_)
        refine (x_cI D116_54 M117 (fun z => by cases z) (I117 _ _ _ _ _) rfl rfl (ok_i M117 (I117 _ _ _ _ _) rfl rfl h21)).trans (bI_c fun v23 m22 => ?_)
        exact x_iret D116_57 M116.2.2.1
      · refine (x_iconst D116_35 (k := -1) (by decide)).trans ?_
        exact x_iret D116_36 M116.2.2.1
theorem D118_0 : decode (mB 118) 0 = .ok (.iload_n 1, 1) := by decide +kernel
theorem D118_1 : decode (mB 118) 1 = .ok (.iconst (-1), 1) := by decide +kernel
theorem D118_2 : BR 118 2 (.if_icmp .ne 11) (11) 13 := ⟨by decide +kernel, by decide, by decide⟩
theorem D118_13 : decode (mB 118) 13 = .ok (.aload_n 0, 1) := by decide +kernel
theorem D118_14 : GF 118 14 9 2 2 := ⟨26, true, by decide +kernel, by decide +kernel⟩
theorem D118_17 : GF 118 17 6 0 2 := ⟨124, false, by decide +kernel, by decide +kernel⟩
theorem D118_20 : decode (mB 118) 20 = .ok (.iload_n 1, 1) := by decide +kernel
theorem D118_21 : CS 118 21 120 0 := ⟨.invokevirtual 191, by decide +kernel, by decide +kernel, by decide +kernel, by decide⟩
theorem D118_24 : BR 118 24 (.ifCond .eq 18) (18) 42 := ⟨by decide +kernel, by decide, by decide⟩
theorem D118_42 : decode (mB 118) 42 = .ok (.iconst (-1), 1) := by decide +kernel
theorem D118_43 : decode (mB 118) 43 = .ok (.ireturn, 1) := by decide +kernel
theorem D118_27 : decode (mB 118) 27 = .ok (.aload_n 0, 1) := by decide +kernel
theorem D118_28 : CS 118 28 97 0 := ⟨.invokevirtual 167, by decide +kernel, by decide +kernel, by decide +kernel, by decide⟩
theorem D118_31 : decode (mB 118) 31 = .ok (.iload_n 1, 1) := by decide +kernel
theorem D118_32 : CS 118 32 84 2 := ⟨.invokestatic 194, by decide +kernel, by decide +kernel, by decide +kernel, by decide⟩
theorem D118_35 : decode (mB 118) 35 = .ok (.land, 1) := by decide +kernel
theorem D118_36 : CS 118 36 119 2 := ⟨.invokestatic 185, by decide +kernel, by decide +kernel, by decide +kernel, by decide⟩
theorem D118_39 : BR 118 39 (.goto 4) (4) 43 := ⟨by decide +kernel, by decide, by decide⟩
theorem D118_5 : decode (mB 118) 5 = .ok (.aload_n 0, 1) := by decide +kernel
theorem D118_6 : CS 118 6 97 0 := ⟨.invokevirtual 167, by decide +kernel, by decide +kernel, by decide +kernel, by decide⟩
theorem D118_9 : CS 118 9 119 2 := ⟨.invokestatic 185, by decide +kernel, by decide +kernel, by decide +kernel, by decide⟩
theorem D118_12 : decode (mB 118) 12 = .ok (.ireturn, 1) := by decide +kernel
theorem LC_worlds_e (d : Nat) (a0 : Nat) (x1 : Int32) (m : eM) (h_a0 : kd a0 = 9) : LC_worlds (d + 1) a0 x1 m = if ¬ x1 = (-1 : Int32) then (bR (gR m a0 2) fun r1 => gd r1 6 (bR (gR m r1 0) fun r3 => gd r3 4 (bI (Pa_isFact d r3 x1 m) fun v6 m5 => if v6 = 0 then (yI (-1 : Int32) m5) else (bL (LC_possible d a0 m5) fun v8 m7 => bL (LC_factSo d x1 m7) fun v10 m9 => bI (Lg_bitCount d (v8 &&& v10) m9) fun v12 m11 => yI v12 m11)))) else (bL (LC_possible d a0 m) fun v14 m13 => bI (Lg_bitCount d v14 m13) fun v16 m15 => yI v16 m15) := by
  unfold LC_worlds
  refine (x_iload1 D118_0 rfl).trans ?_
  refine (x_iconst D118_1 (k := -1) (by decide)).trans ?_
  refine (x_cne D118_2).trans (i_c ?_ ?_)
  · refine (x_aload1 D118_13 rfl).trans ?_
    refine ((x_getR D118_14).trans (gd_t h_a0)).trans (bR_c fun r1 => ?_)
    refine (x_getR D118_17).trans (gd_c fun h2 => bR_c fun r3 => ?_)
    refine (x_iload1 D118_20 rfl).trans ?_
    refine (x_cg D118_21 M120 rfl rfl).trans (gd_c fun h4 => ?_)
    refine (x_cI D118_21 M120 (fun z => by cases z) (I120 _ _) rfl rfl (ok_i M120 (I120 _ _) rfl rfl h4)).trans (bI_c fun v6 m5 => ?_)
    refine (x_ifeq D118_24).trans (i_c ?_ ?_)
    · refine (x_iconst D118_42 (k := -1) (by decide)).trans ?_
      exact x_iret D118_43 M118.2.2.1
    · refine (x_aload1 D118_27 rfl).trans ?_
      refine (x_cL D118_28 M97  (I97 _) rfl rfl (ok_i M97 (I97 _) rfl rfl h_a0)).trans (bL_c fun v8 m7 => ?_)
      refine (x_iload1 D118_31 rfl).trans ?_
      refine (x_cL D118_32 M84  (I84 _) rfl rfl (ok_s M84 (I84 _) rfl rfl)).trans (bL_c fun v10 m9 => ?_)
      refine (x_land D118_35).trans ?_
      refine (x_cI D118_36 M119 (fun z => by cases z) (I119 _) rfl rfl (ok_s M119 (I119 _) rfl rfl)).trans (bI_c fun v12 m11 => ?_)
      refine (x_goto D118_39).trans ?_
      exact x_iret D118_43 M118.2.2.1
  · refine (x_aload1 D118_5 rfl).trans ?_
    refine (x_cL D118_6 M97  (I97 _) rfl rfl (ok_i M97 (I97 _) rfl rfl h_a0)).trans (bL_c fun v14 m13 => ?_)
    refine (x_cI D118_9 M119 (fun z => by cases z) (I119 _) rfl rfl (ok_s M119 (I119 _) rfl rfl)).trans (bI_c fun v16 m15 => ?_)
    exact x_iret D118_12 M118.2.2.1
theorem D121_0 : decode (mB 121) 0 = .ok (.aload_n 0, 1) := by decide +kernel
theorem D121_1 : GF 121 1 9 2 2 := ⟨26, true, by decide +kernel, by decide +kernel⟩
theorem D121_4 : GF 121 4 6 0 2 := ⟨124, false, by decide +kernel, by decide +kernel⟩
theorem D121_7 : decode (mB 121) 7 = .ok (.iload_n 1, 1) := by decide +kernel
theorem D121_8 : CS 121 8 120 0 := ⟨.invokevirtual 191, by decide +kernel, by decide +kernel, by decide +kernel, by decide⟩
theorem D121_11 : BR 121 11 (.ifCond .eq 17) (17) 28 := ⟨by decide +kernel, by decide, by decide⟩
theorem D121_28 : decode (mB 121) 28 = .ok (.iconst (-1), 1) := by decide +kernel
theorem D121_29 : decode (mB 121) 29 = .ok (.ireturn, 1) := by decide +kernel
theorem D121_14 : decode (mB 121) 14 = .ok (.aload_n 0, 1) := by decide +kernel
theorem D121_15 : CS 121 15 97 0 := ⟨.invokevirtual 167, by decide +kernel, by decide +kernel, by decide +kernel, by decide⟩
theorem D121_18 : decode (mB 121) 18 = .ok (.iload_n 1, 1) := by decide +kernel
theorem D121_19 : CS 121 19 84 2 := ⟨.invokestatic 194, by decide +kernel, by decide +kernel, by decide +kernel, by decide⟩
theorem D121_22 : CS 121 22 122 2 := ⟨.invokestatic 197, by decide +kernel, by decide +kernel, by decide +kernel, by decide⟩
theorem D121_25 : BR 121 25 (.goto 4) (4) 29 := ⟨by decide +kernel, by decide, by decide⟩
theorem LC_sureFact_e (d : Nat) (a0 : Nat) (x1 : Int32) (m : eM) (h_a0 : kd a0 = 9) : LC_sureFact (d + 1) a0 x1 m = bR (gR m a0 2) fun r1 => gd r1 6 (bR (gR m r1 0) fun r3 => gd r3 4 (bI (Pa_isFact d r3 x1 m) fun v6 m5 => if v6 = 0 then (yI (-1 : Int32) m5) else (bL (LC_possible d a0 m5) fun v8 m7 => bL (LC_factSo d x1 m7) fun v10 m9 => bI (LC_sureness d v8 v10 m9) fun v12 m11 => yI v12 m11))) := by
  unfold LC_sureFact
  refine (x_aload1 D121_0 rfl).trans ?_
  refine ((x_getR D121_1).trans (gd_t h_a0)).trans (bR_c fun r1 => ?_)
  refine (x_getR D121_4).trans (gd_c fun h2 => bR_c fun r3 => ?_)
  refine (x_iload1 D121_7 rfl).trans ?_
  refine (x_cg D121_8 M120 rfl rfl).trans (gd_c fun h4 => ?_)
  refine (x_cI D121_8 M120 (fun z => by cases z) (I120 _ _) rfl rfl (ok_i M120 (I120 _ _) rfl rfl h4)).trans (bI_c fun v6 m5 => ?_)
  refine (x_ifeq D121_11).trans (i_c ?_ ?_)
  · refine (x_iconst D121_28 (k := -1) (by decide)).trans ?_
    exact x_iret D121_29 M121.2.2.1
  · refine (x_aload1 D121_14 rfl).trans ?_
    refine (x_cL D121_15 M97  (I97 _) rfl rfl (ok_i M97 (I97 _) rfl rfl h_a0)).trans (bL_c fun v8 m7 => ?_)
    refine (x_iload1 D121_18 rfl).trans ?_
    refine (x_cL D121_19 M84  (I84 _) rfl rfl (ok_s M84 (I84 _) rfl rfl)).trans (bL_c fun v10 m9 => ?_)
    refine (x_cI D121_22 M122 (fun z => by cases z) (I122 _ _) rfl rfl (ok_s M122 (I122 _ _) rfl rfl)).trans (bI_c fun v12 m11 => ?_)
    refine (x_goto D121_25).trans ?_
    exact x_iret D121_29 M121.2.2.1
theorem D122_0 : decode (mB 122) 0 = .ok (.lload_n 0, 1) := by decide +kernel
theorem D122_1 : decode (mB 122) 1 = .ok (.lconst 0, 1) := by decide +kernel
theorem D122_2 : decode (mB 122) 2 = .ok (.lcmp, 1) := by decide +kernel
theorem D122_3 : BR 122 3 (.ifCond .ne 5) (5) 8 := ⟨by decide +kernel, by decide, by decide⟩
theorem D122_8 : decode (mB 122) 8 = .ok (.lload_n 0, 1) := by decide +kernel
theorem D122_9 : decode (mB 122) 9 = .ok (.lload_n 2, 1) := by decide +kernel
theorem R122_10 : lRes (mC 122) 204 = some (-1) := by decide +kernel
theorem D122_10 : decode (mB 122) 10 = .ok (.ldc2_w 204, 3) := by decide +kernel
theorem D122_13 : decode (mB 122) 13 = .ok (.lxor, 1) := by decide +kernel
theorem D122_14 : decode (mB 122) 14 = .ok (.land, 1) := by decide +kernel
theorem D122_15 : decode (mB 122) 15 = .ok (.lconst 0, 1) := by decide +kernel
theorem D122_16 : decode (mB 122) 16 = .ok (.lcmp, 1) := by decide +kernel
theorem D122_17 : BR 122 17 (.ifCond .ne 5) (5) 22 := ⟨by decide +kernel, by decide, by decide⟩
theorem D122_22 : decode (mB 122) 22 = .ok (.lload_n 0, 1) := by decide +kernel
theorem D122_23 : decode (mB 122) 23 = .ok (.lload_n 2, 1) := by decide +kernel
theorem D122_24 : decode (mB 122) 24 = .ok (.land, 1) := by decide +kernel
theorem D122_25 : decode (mB 122) 25 = .ok (.lconst 0, 1) := by decide +kernel
theorem D122_26 : decode (mB 122) 26 = .ok (.lcmp, 1) := by decide +kernel
theorem D122_27 : BR 122 27 (.ifCond .ne 7) (7) 34 := ⟨by decide +kernel, by decide, by decide⟩
theorem D122_34 : decode (mB 122) 34 = .ok (.iconst 2, 1) := by decide +kernel
theorem D122_35 : decode (mB 122) 35 = .ok (.ireturn, 1) := by decide +kernel
theorem D122_30 : decode (mB 122) 30 = .ok (.iconst 0, 1) := by decide +kernel
theorem D122_31 : BR 122 31 (.goto 4) (4) 35 := ⟨by decide +kernel, by decide, by decide⟩
theorem D122_20 : decode (mB 122) 20 = .ok (.iconst 1, 1) := by decide +kernel
theorem D122_21 : decode (mB 122) 21 = .ok (.ireturn, 1) := by decide +kernel
theorem D122_6 : decode (mB 122) 6 = .ok (.iconst 3, 1) := by decide +kernel
theorem D122_7 : decode (mB 122) 7 = .ok (.ireturn, 1) := by decide +kernel
theorem LC_sureness_e (d : Nat) (y0 : Int64) (y2 : Int64) (m : eM)  : LC_sureness d y0 y2 m = if ¬ (lg_cmp y0 (0 : Int64)) = 0 then (if ¬ (lg_cmp (y0 &&& (y2 ^^^ (-1 : Int64))) (0 : Int64)) = 0 then (if ¬ (lg_cmp (y0 &&& y2) (0 : Int64)) = 0 then (yI (2 : Int32) m) else (yI (0 : Int32) m)) else (yI (1 : Int32) m)) else (yI (3 : Int32) m) := by
  unfold LC_sureness
  refine (x_lload1 D122_0 rfl).trans ?_
  refine (x_lconst0 D122_1).trans ?_
  refine (x_lcmp D122_2).trans ?_
  refine (x_ifne D122_3).trans (i_c ?_ ?_)
  · refine (x_lload1 D122_8 rfl).trans ?_
    refine (x_lload1 D122_9 rfl).trans ?_
    refine (x_ldc2 D122_10 R122_10).trans ?_
    refine (x_lxor D122_13).trans ?_
    refine (x_land D122_14).trans ?_
    refine (x_lconst0 D122_15).trans ?_
    refine (x_lcmp D122_16).trans ?_
    refine (x_ifne D122_17).trans (i_c ?_ ?_)
    · refine (x_lload1 D122_22 rfl).trans ?_
      refine (x_lload1 D122_23 rfl).trans ?_
      refine (x_land D122_24).trans ?_
      refine (x_lconst0 D122_25).trans ?_
      refine (x_lcmp D122_26).trans ?_
      refine (x_ifne D122_27).trans (i_c ?_ ?_)
      · refine (x_iconst D122_34 (k := 2) (by decide)).trans ?_
        exact x_iret D122_35 M122.2.2.1
      · refine (x_iconst D122_30 (k := 0) (by decide)).trans ?_
        refine (x_goto D122_31).trans ?_
        exact x_iret D122_35 M122.2.2.1
    · refine (x_iconst D122_20 (k := 1) (by decide)).trans ?_
      exact x_iret D122_21 M122.2.2.1
  · refine (x_iconst D122_6 (k := 3) (by decide)).trans ?_
    exact x_iret D122_7 M122.2.2.1
theorem D123_0 : decode (mB 123) 0 = .ok (.aload_n 0, 1) := by decide +kernel
theorem D123_1 : GF 123 1 9 2 2 := ⟨26, true, by decide +kernel, by decide +kernel⟩
theorem D123_4 : GF 123 4 6 1 2 := ⟨108, true, by decide +kernel, by decide +kernel⟩
theorem D123_7 : decode (mB 123) 7 = .ok (.iload_n 1, 1) := by decide +kernel
theorem D123_8 : CS 123 8 73 0 := ⟨.invokevirtual 170, by decide +kernel, by decide +kernel, by decide +kernel, by decide⟩
theorem D123_11 : BR 123 11 (.ifCond .eq 24) (24) 35 := ⟨by decide +kernel, by decide, by decide⟩
theorem D123_35 : decode (mB 123) 35 = .ok (.iconst (-1), 1) := by decide +kernel
theorem D123_36 : decode (mB 123) 36 = .ok (.ireturn, 1) := by decide +kernel
theorem D123_14 : decode (mB 123) 14 = .ok (.aload_n 0, 1) := by decide +kernel
theorem D123_15 : CS 123 15 97 0 := ⟨.invokevirtual 167, by decide +kernel, by decide +kernel, by decide +kernel, by decide⟩
theorem D123_18 : decode (mB 123) 18 = .ok (.aload_n 0, 1) := by decide +kernel
theorem D123_19 : GF 123 19 9 2 2 := ⟨26, true, by decide +kernel, by decide +kernel⟩
theorem D123_22 : GF 123 22 6 1 2 := ⟨108, true, by decide +kernel, by decide +kernel⟩
theorem D123_25 : decode (mB 123) 25 = .ok (.iload_n 1, 1) := by decide +kernel
theorem D123_26 : CS 123 26 115 0 := ⟨.invokevirtual 173, by decide +kernel, by decide +kernel, by decide +kernel, by decide⟩
theorem D123_29 : CS 123 29 122 2 := ⟨.invokestatic 197, by decide +kernel, by decide +kernel, by decide +kernel, by decide⟩
theorem D123_32 : BR 123 32 (.goto 4) (4) 36 := ⟨by decide +kernel, by decide, by decide⟩
theorem LC_sure_e (d : Nat) (a0 : Nat) (x1 : Int32) (m : eM) (h_a0 : kd a0 = 9) : LC_sure (d + 1) a0 x1 m = bR (gR m a0 2) fun r1 => gd r1 6 (bR (gR m r1 1) fun r3 => gd r3 7 (bI (Tk_isIn d r3 x1 m) fun v6 m5 => if v6 = 0 then (yI (-1 : Int32) m5) else (bL (LC_possible d a0 m5) fun v8 m7 => bR (gR m7 a0 2) fun r9 => gd r9 6 (bR (gR m7 r9 1) fun r11 => gd r11 7 (bL (Tk_so d r11 x1 m7) fun v14 m13 => bI (LC_sureness d v8 v14 m13) fun v16 m15 => yI v16 m15))))) := by
  unfold LC_sure
  refine (x_aload1 D123_0 rfl).trans ?_
  refine ((x_getR D123_1).trans (gd_t h_a0)).trans (bR_c fun r1 => ?_)
  refine (x_getR D123_4).trans (gd_c fun h2 => bR_c fun r3 => ?_)
  refine (x_iload1 D123_7 rfl).trans ?_
  refine (x_cg D123_8 M73 rfl rfl).trans (gd_c fun h4 => ?_)
  refine (x_cI D123_8 M73 (fun z => by cases z) (I73 _ _) rfl rfl (ok_i M73 (I73 _ _) rfl rfl h4)).trans (bI_c fun v6 m5 => ?_)
  refine (x_ifeq D123_11).trans (i_c ?_ ?_)
  · refine (x_iconst D123_35 (k := -1) (by decide)).trans ?_
    exact x_iret D123_36 M123.2.2.1
  · refine (x_aload1 D123_14 rfl).trans ?_
    refine (x_cL D123_15 M97  (I97 _) rfl rfl (ok_i M97 (I97 _) rfl rfl h_a0)).trans (bL_c fun v8 m7 => ?_)
    refine (x_aload1 D123_18 rfl).trans ?_
    refine ((x_getR D123_19).trans (gd_t h_a0)).trans (bR_c fun r9 => ?_)
    refine (x_getR D123_22).trans (gd_c fun h10 => bR_c fun r11 => ?_)
    refine (x_iload1 D123_25 rfl).trans ?_
    refine (x_cg D123_26 M115 rfl rfl).trans (gd_c fun h12 => ?_)
    refine (x_cL D123_26 M115  (I115 _ _) rfl rfl (ok_i M115 (I115 _ _) rfl rfl h12)).trans (bL_c fun v14 m13 => ?_)
    refine (x_cI D123_29 M122 (fun z => by cases z) (I122 _ _) rfl rfl (ok_s M122 (I122 _ _) rfl rfl)).trans (bI_c fun v16 m15 => ?_)
    refine (x_goto D123_32).trans ?_
    exact x_iret D123_36 M123.2.2.1
theorem D124_0 : decode (mB 124) 0 = .ok (.aload_n 0, 1) := by decide +kernel
theorem D124_1 : GF 124 1 9 2 2 := ⟨26, true, by decide +kernel, by decide +kernel⟩
theorem D124_4 : GF 124 4 6 0 2 := ⟨124, false, by decide +kernel, by decide +kernel⟩
theorem D124_7 : decode (mB 124) 7 = .ok (.iload_n 1, 1) := by decide +kernel
theorem D124_8 : CS 124 8 120 0 := ⟨.invokevirtual 191, by decide +kernel, by decide +kernel, by decide +kernel, by decide⟩
theorem D124_11 : BR 124 11 (.ifCond .eq 10) (10) 21 := ⟨by decide +kernel, by decide, by decide⟩
theorem R124_21 : lRes (mC 124) 204 = some (-1) := by decide +kernel
theorem D124_21 : decode (mB 124) 21 = .ok (.ldc2_w 204, 3) := by decide +kernel
theorem D124_24 : decode (mB 124) 24 = .ok (.lreturn, 1) := by decide +kernel
theorem D124_14 : decode (mB 124) 14 = .ok (.iload_n 2, 1) := by decide +kernel
theorem D124_15 : CS 124 15 125 2 := ⟨.invokestatic 201, by decide +kernel, by decide +kernel, by decide +kernel, by decide⟩
theorem D124_18 : BR 124 18 (.ifCond .ne 7) (7) 25 := ⟨by decide +kernel, by decide, by decide⟩
theorem D124_25 : decode (mB 124) 25 = .ok (.aload_n 0, 1) := by decide +kernel
theorem D124_26 : CS 124 26 97 0 := ⟨.invokevirtual 167, by decide +kernel, by decide +kernel, by decide +kernel, by decide⟩
theorem D124_29 : decode (mB 124) 29 = .ok (.lstore_n 3, 1) := by decide +kernel
theorem D124_30 : decode (mB 124) 30 = .ok (.aload_n 0, 1) := by decide +kernel
theorem D124_31 : GF 124 31 9 2 2 := ⟨26, true, by decide +kernel, by decide +kernel⟩
theorem D124_34 : GF 124 34 6 0 2 := ⟨124, false, by decide +kernel, by decide +kernel⟩
theorem D124_37 : decode (mB 124) 37 = .ok (.lload_n 3, 1) := by decide +kernel
theorem D124_38 : CS 124 38 126 0 := ⟨.invokevirtual 206, by decide +kernel, by decide +kernel, by decide +kernel, by decide⟩
theorem D124_41 : decode (mB 124) 41 = .ok (.lstore 5, 2) := by decide +kernel
theorem D124_43 : decode (mB 124) 43 = .ok (.lload 5, 2) := by decide +kernel
theorem D124_45 : decode (mB 124) 45 = .ok (.lconst 0, 1) := by decide +kernel
theorem D124_46 : decode (mB 124) 46 = .ok (.lcmp, 1) := by decide +kernel
theorem D124_47 : BR 124 47 (.ifCond .ne 7) (7) 54 := ⟨by decide +kernel, by decide, by decide⟩
theorem D124_54 : decode (mB 124) 54 = .ok (.aload_n 0, 1) := by decide +kernel
theorem D124_55 : GF 124 55 9 2 2 := ⟨26, true, by decide +kernel, by decide +kernel⟩
theorem D124_58 : GF 124 58 6 0 2 := ⟨124, false, by decide +kernel, by decide +kernel⟩
theorem D124_61 : decode (mB 124) 61 = .ok (.lload_n 3, 1) := by decide +kernel
theorem D124_62 : decode (mB 124) 62 = .ok (.iload_n 1, 1) := by decide +kernel
theorem D124_63 : CS 124 63 84 2 := ⟨.invokestatic 194, by decide +kernel, by decide +kernel, by decide +kernel, by decide⟩
theorem D124_66 : decode (mB 124) 66 = .ok (.land, 1) := by decide +kernel
theorem D124_67 : CS 124 67 126 0 := ⟨.invokevirtual 206, by decide +kernel, by decide +kernel, by decide +kernel, by decide⟩
theorem D124_70 : decode (mB 124) 70 = .ok (.lstore 7, 2) := by decide +kernel
theorem D124_72 : decode (mB 124) 72 = .ok (.lconst 1, 1) := by decide +kernel
theorem D124_73 : decode (mB 124) 73 = .ok (.lload 5, 2) := by decide +kernel
theorem D124_75 : decode (mB 124) 75 = .ok (.lload 7, 2) := by decide +kernel
theorem D124_77 : CS 124 77 128 2 := ⟨.invokestatic 210, by decide +kernel, by decide +kernel, by decide +kernel, by decide⟩
theorem D124_80 : MA 124 80 3 := ⟨214, by decide +kernel, by decide +kernel, by decide +kernel⟩
theorem D124_83 : decode (mB 124) 83 = .ok (.lstore 9, 2) := by decide +kernel
theorem D124_85 : decode (mB 124) 85 = .ok (.iload_n 2, 1) := by decide +kernel
theorem D124_86 : BR 124 86 (.ifCond .ne 8) (8) 94 := ⟨by decide +kernel, by decide, by decide⟩
theorem D124_94 : decode (mB 124) 94 = .ok (.lload 5, 2) := by decide +kernel
theorem D124_96 : decode (mB 124) 96 = .ok (.lload 9, 2) := by decide +kernel
theorem D124_98 : decode (mB 124) 98 = .ok (.ldiv, 1) := by decide +kernel
theorem D124_99 : decode (mB 124) 99 = .ok (.lreturn, 1) := by decide +kernel
theorem D124_89 : decode (mB 124) 89 = .ok (.lload 7, 2) := by decide +kernel
theorem D124_91 : BR 124 91 (.goto 5) (5) 96 := ⟨by decide +kernel, by decide, by decide⟩
theorem R124_50 : lRes (mC 124) 204 = some (-1) := by decide +kernel
theorem D124_50 : decode (mB 124) 50 = .ok (.ldc2_w 204, 3) := by decide +kernel
theorem D124_53 : decode (mB 124) 53 = .ok (.lreturn, 1) := by decide +kernel
theorem LC_odds_e (d : Nat) (a0 : Nat) (x1 : Int32) (x2 : Int32) (m : eM) (h_a0 : kd a0 = 9) : LC_odds (d + 1) a0 x1 x2 m = bR (gR m a0 2) fun r1 => gd r1 6 (bR (gR m r1 0) fun r3 => gd r3 4 (bI (Pa_isFact d r3 x1 m) fun v6 m5 => if v6 = 0 then (yL (-1 : Int64) m5) else (bI (LC_isWhat d x2 m5) fun v8 m7 => if ¬ v8 = 0 then (bL (LC_possible d a0 m7) fun v10 m9 => bR (gR m9 a0 2) fun r11 => gd r11 6 (bR (gR m9 r11 0) fun r13 => gd r13 4 (bL (Pa_weight d r13 v10 m9) fun v16 m15 => if ¬ (lg_cmp v16 (0 : Int64)) = 0 then (bR (gR m15 a0 2) fun r17 => gd r17 6 (bR (gR m15 r17 0) fun r19 => bL (LC_factSo d x1 m15) fun v21 m20 => gd r19 4 (bL (Pa_weight d r19 (v10 &&& v21) m20) fun v24 m23 => bL (LC_greatestDivisor d v16 v24 m23) fun v26 m25 => if ¬ x2 = 0 then (if (lMax (1 : Int64) v26) = 0 then none else yL (v16 / (lMax (1 : Int64) v26)) m25) else (if (lMax (1 : Int64) v26) = 0 then none else yL (v24 / (lMax (1 : Int64) v26)) m25)))) else (yL (-1 : Int64) m15)))) else (yL (-1 : Int64) m7)))) := by
  unfold LC_odds
  refine (x_aload1 D124_0 rfl).trans ?_
  refine ((x_getR D124_1).trans (gd_t h_a0)).trans (bR_c fun r1 => ?_)
  refine (x_getR D124_4).trans (gd_c fun h2 => bR_c fun r3 => ?_)
  refine (x_iload1 D124_7 rfl).trans ?_
  refine (x_cg D124_8 M120 rfl rfl).trans (gd_c fun h4 => ?_)
  refine (x_cI D124_8 M120 (fun z => by cases z) (I120 _ _) rfl rfl (ok_i M120 (I120 _ _) rfl rfl h4)).trans (bI_c fun v6 m5 => ?_)
  refine (x_ifeq D124_11).trans (i_c ?_ ?_)
  · refine (x_ldc2 D124_21 R124_21).trans ?_
    exact x_lret D124_24 M124.2.2.1
  · refine (x_iload1 D124_14 rfl).trans ?_
    refine (x_cI D124_15 M125 (fun z => by cases z) (I125 _) rfl rfl (ok_s M125 (I125 _) rfl rfl)).trans (bI_c fun v8 m7 => ?_)
    refine (x_ifne D124_18).trans (i_c ?_ ?_)
    · refine (x_aload1 D124_25 rfl).trans ?_
      refine (x_cL D124_26 M97  (I97 _) rfl rfl (ok_i M97 (I97 _) rfl rfl h_a0)).trans (bL_c fun v10 m9 => ?_)
      refine (x_lstore1 D124_29 (ls' := [.ref a0, .int x1, .int x2, .long v10, eU, eU, eU, eU, eU, eU, eU]) rfl rfl).trans ?_
      refine (x_aload1 D124_30 rfl).trans ?_
      refine ((x_getR D124_31).trans (gd_t h_a0)).trans (bR_c fun r11 => ?_)
      refine (x_getR D124_34).trans (gd_c fun h12 => bR_c fun r13 => ?_)
      refine (x_lload1 D124_37 rfl).trans ?_
      refine (x_cg D124_38 M126 rfl rfl).trans (gd_c fun h14 => ?_)
      refine (x_cL D124_38 M126  (I126 _ _) rfl rfl (ok_i M126 (I126 _ _) rfl rfl h14)).trans (bL_c fun v16 m15 => ?_)
      refine (x_lstore2 D124_41 (ls' := [.ref a0, .int x1, .int x2, .long v10, eU, .long v16, eU, eU, eU, eU, eU]) rfl rfl).trans ?_
      refine (x_lload2 D124_43 rfl).trans ?_
      refine (x_lconst0 D124_45).trans ?_
      refine (x_lcmp D124_46).trans ?_
      refine (x_ifne D124_47).trans (i_c ?_ ?_)
      · refine (x_aload1 D124_54 rfl).trans ?_
        refine ((x_getR D124_55).trans (gd_t h_a0)).trans (bR_c fun r17 => ?_)
        refine (x_getR D124_58).trans (gd_c fun h18 => bR_c fun r19 => ?_)
        refine (x_lload1 D124_61 rfl).trans ?_
        refine (x_iload1 D124_62 rfl).trans ?_
        refine (x_cL D124_63 M84  (I84 _) rfl rfl (ok_s M84 (I84 _) rfl rfl)).trans (bL_c fun v21 m20 => ?_)
        refine (x_land D124_66).trans ?_
        refine (x_cg D124_67 M126 rfl rfl).trans (gd_c fun h22 => ?_)
        refine (x_cL D124_67 M126  (I126 _ _) rfl rfl (ok_i M126 (I126 _ _) rfl rfl h22)).trans (bL_c fun v24 m23 => ?_)
        refine (x_lstore2 D124_70 (ls' := [.ref a0, .int x1, .int x2, .long v10, eU, .long v16, eU, .long v24, eU, eU, eU]) rfl rfl).trans ?_
        refine (x_lconst1 D124_72).trans ?_
        refine (x_lload2 D124_73 rfl).trans ?_
        refine (x_lload2 D124_75 rfl).trans ?_
        refine (x_cL D124_77 M128  (I128 _ _) rfl rfl (ok_s M128 (I128 _ _) rfl rfl)).trans (bL_c fun v26 m25 => ?_)
        refine (x_lmax D124_80 rfl).trans ?_
        refine (x_lstore2 D124_83 (ls' := [.ref a0, .int x1, .int x2, .long v10, eU, .long v16, eU, .long v24, eU, .long (lMax (1 : Int64) v26), eU]) rfl rfl).trans ?_
        refine (x_iload1 D124_85 rfl).trans ?_
        refine (x_ifne D124_86).trans (i_c ?_ ?_)
        · refine (x_lload2 D124_94 rfl).trans ?_
          refine (x_lload2 D124_96 rfl).trans ?_
          refine (x_ldiv D124_98).trans (z_c ?_)
          exact x_lret D124_99 M124.2.2.1
        · refine (x_lload2 D124_89 rfl).trans ?_
          refine (x_goto D124_91).trans ?_
          refine (x_lload2 D124_96 rfl).trans ?_
          refine (x_ldiv D124_98).trans (z_c ?_)
          exact x_lret D124_99 M124.2.2.1
      · refine (x_ldc2 D124_50 R124_50).trans ?_
        exact x_lret D124_53 M124.2.2.1
    · refine (x_ldc2 D124_21 R124_21).trans ?_
      exact x_lret D124_24 M124.2.2.1
theorem D125_0 : decode (mB 125) 0 = .ok (.iload_n 0, 1) := by decide +kernel
theorem D125_1 : BR 125 1 (.ifCond .eq 8) (8) 9 := ⟨by decide +kernel, by decide, by decide⟩
theorem D125_9 : decode (mB 125) 9 = .ok (.iconst 1, 1) := by decide +kernel
theorem D125_10 : BR 125 10 (.goto 4) (4) 14 := ⟨by decide +kernel, by decide, by decide⟩
theorem D125_14 : decode (mB 125) 14 = .ok (.ireturn, 1) := by decide +kernel
theorem D125_4 : decode (mB 125) 4 = .ok (.iload_n 0, 1) := by decide +kernel
theorem D125_5 : decode (mB 125) 5 = .ok (.iconst 1, 1) := by decide +kernel
theorem D125_6 : BR 125 6 (.if_icmp .ne 7) (7) 13 := ⟨by decide +kernel, by decide, by decide⟩
theorem D125_13 : decode (mB 125) 13 = .ok (.iconst 0, 1) := by decide +kernel
theorem LC_isWhat_e (d : Nat) (x0 : Int32) (m : eM)  : LC_isWhat d x0 m = if x0 = 0 then (yI (1 : Int32) m) else (if ¬ x0 = (1 : Int32) then (yI (0 : Int32) m) else (yI (1 : Int32) m)) := by
  unfold LC_isWhat
  refine (x_iload1 D125_0 rfl).trans ?_
  refine (x_ifeq D125_1).trans (i_c ?_ ?_)
  · refine (x_iconst D125_9 (k := 1) (by decide)).trans ?_
    refine (x_goto D125_10).trans ?_
    exact (x_bret D125_14 M125.2.2.1).trans yB1
  · refine (x_iload1 D125_4 rfl).trans ?_
    refine (x_iconst D125_5 (k := 1) (by decide)).trans ?_
    refine (x_cne D125_6).trans (i_c ?_ ?_)
    · refine (x_iconst D125_13 (k := 0) (by decide)).trans ?_
      exact (x_bret D125_14 M125.2.2.1).trans yB0
    · refine (x_iconst D125_9 (k := 1) (by decide)).trans ?_
      refine (x_goto D125_10).trans ?_
      exact (x_bret D125_14 M125.2.2.1).trans yB1
theorem D128_0 : decode (mB 128) 0 = .ok (.lload_n 0, 1) := by decide +kernel
theorem D128_1 : decode (mB 128) 1 = .ok (.lstore 4, 2) := by decide +kernel
theorem D128_3 : decode (mB 128) 3 = .ok (.lload_n 2, 1) := by decide +kernel
theorem D128_4 : decode (mB 128) 4 = .ok (.lstore 6, 2) := by decide +kernel
theorem D128_6 : decode (mB 128) 6 = .ok (.iconst 0, 1) := by decide +kernel
theorem D128_7 : decode (mB 128) 7 = .ok (.istore 8, 2) := by decide +kernel
theorem D128_9 : decode (mB 128) 9 = .ok (.iload 8, 2) := by decide +kernel
theorem D128_11 : decode (mB 128) 11 = .ok (.bipush 100, 2) := by decide +kernel
theorem D128_13 : BR 128 13 (.if_icmp .ge 31) (31) 44 := ⟨by decide +kernel, by decide, by decide⟩
theorem D128_44 : decode (mB 128) 44 = .ok (.lload 4, 2) := by decide +kernel
theorem D128_46 : decode (mB 128) 46 = .ok (.lreturn, 1) := by decide +kernel
theorem D128_16 : decode (mB 128) 16 = .ok (.lload 6, 2) := by decide +kernel
theorem D128_18 : decode (mB 128) 18 = .ok (.lconst 0, 1) := by decide +kernel
theorem D128_19 : decode (mB 128) 19 = .ok (.lcmp, 1) := by decide +kernel
theorem D128_20 : BR 128 20 (.ifCond .eq 24) (24) 44 := ⟨by decide +kernel, by decide, by decide⟩
theorem D128_23 : decode (mB 128) 23 = .ok (.lload 4, 2) := by decide +kernel
theorem D128_25 : decode (mB 128) 25 = .ok (.lload 6, 2) := by decide +kernel
theorem D128_27 : decode (mB 128) 27 = .ok (.lrem, 1) := by decide +kernel
theorem D128_28 : decode (mB 128) 28 = .ok (.lstore 9, 2) := by decide +kernel
theorem D128_30 : decode (mB 128) 30 = .ok (.lload 6, 2) := by decide +kernel
theorem D128_32 : decode (mB 128) 32 = .ok (.lstore 4, 2) := by decide +kernel
theorem D128_34 : decode (mB 128) 34 = .ok (.lload 9, 2) := by decide +kernel
theorem D128_36 : decode (mB 128) 36 = .ok (.lstore 6, 2) := by decide +kernel
theorem D128_38 : decode (mB 128) 38 = .ok (.iinc 8 1, 3) := by decide +kernel
theorem D128_41 : BR 128 41 (.goto (-32)) (-32) 9 := ⟨by decide +kernel, by decide, by decide⟩
theorem LC_greatestDivisor_e (d : Nat) (y0 : Int64) (y2 : Int64) (m : eM)  : LC_greatestDivisor d y0 y2 m = LC_greatestDivisor_9 d y0 y2 y0 y2 (0 : Int32) eU m := by
  unfold LC_greatestDivisor
  refine (x_lload1 D128_0 rfl).trans ?_
  refine (x_lstore2 D128_1 (ls' := [.long y0, eU, .long y2, eU, .long y0, eU, eU, eU, eU, eU, eU]) rfl rfl).trans ?_
  refine (x_lload1 D128_3 rfl).trans ?_
  refine (x_lstore2 D128_4 (ls' := [.long y0, eU, .long y2, eU, .long y0, eU, .long y2, eU, eU, eU, eU]) rfl rfl).trans ?_
  refine (x_iconst D128_6 (k := 0) (by decide)).trans ?_
  refine (x_istore2 D128_7 (ls' := [.long y0, eU, .long y2, eU, .long y0, eU, .long y2, eU, .int (0 : Int32), eU, eU]) rfl rfl).trans ?_
  rfl
theorem LC_greatestDivisor_9_e (d : Nat) (y0 : Int64) (y2 : Int64) (y4 : Int64) (y6 : Int64) (x8 : Int32) (w9 : Value) (m : eM)  : LC_greatestDivisor_9 d y0 y2 y4 y6 x8 w9 m = if (100 : Int32) ≤ x8 then (yL y4 m) else (if (lg_cmp y6 (0 : Int64)) = 0 then (yL y4 m) else (if y6 = 0 then none else LC_greatestDivisor_9 d y0 y2 y6 (y4 - y4 / y6 * y6) (x8 + (1 : Int32)) (.long (y4 - y4 / y6 * y6)) m)) := by
  unfold LC_greatestDivisor_9
  refine (x_iload2 D128_9 rfl).trans ?_
  refine (x_bipush D128_11 (k := 100) (by decide)).trans ?_
  refine (x_cge D128_13).trans (i_c ?_ ?_)
  · refine (x_lload2 D128_44 rfl).trans ?_
    exact x_lret D128_46 M128.2.2.1
  · refine (x_lload2 D128_16 rfl).trans ?_
    refine (x_lconst0 D128_18).trans ?_
    refine (x_lcmp D128_19).trans ?_
    refine (x_ifeq D128_20).trans (i_c ?_ ?_)
    · refine (x_lload2 D128_44 rfl).trans ?_
      exact x_lret D128_46 M128.2.2.1
    · refine (x_lload2 D128_23 rfl).trans ?_
      refine (x_lload2 D128_25 rfl).trans ?_
      refine (x_lrem D128_27).trans (z_c ?_)
      refine (x_lstore2 D128_28 (ls' := [.long y0, eU, .long y2, eU, .long y4, eU, .long y6, eU, .int x8, .long (y4 - y4 / y6 * y6), eU]) rfl rfl).trans ?_
      refine (x_lload2 D128_30 rfl).trans ?_
      refine (x_lstore2 D128_32 (ls' := [.long y0, eU, .long y2, eU, .long y6, eU, .long y6, eU, .int x8, .long (y4 - y4 / y6 * y6), eU]) rfl rfl).trans ?_
      refine (x_lload2 D128_34 rfl).trans ?_
      refine (x_lstore2 D128_36 (ls' := [.long y0, eU, .long y2, eU, .long y6, eU, .long (y4 - y4 / y6 * y6), eU, .int x8, .long (y4 - y4 / y6 * y6), eU]) rfl rfl).trans ?_
      refine (x_iinc D128_38 rfl (k := 1) (by decide) (ls' := [.long y0, eU, .long y2, eU, .long y6, eU, .long (y4 - y4 / y6 * y6), eU, .int (x8 + (1 : Int32)), .long (y4 - y4 / y6 * y6), eU]) rfl).trans ?_
      refine (x_goto D128_41).trans ?_
      rfl
theorem D129_0 : decode (mB 129) 0 = .ok (.aload_n 0, 1) := by decide +kernel
theorem D129_1 : GF 129 1 9 2 2 := ⟨26, true, by decide +kernel, by decide +kernel⟩
theorem D129_4 : GF 129 4 6 1 2 := ⟨108, true, by decide +kernel, by decide +kernel⟩
theorem D129_7 : decode (mB 129) 7 = .ok (.iload_n 1, 1) := by decide +kernel
theorem D129_8 : CS 129 8 73 0 := ⟨.invokevirtual 170, by decide +kernel, by decide +kernel, by decide +kernel, by decide⟩
theorem D129_11 : BR 129 11 (.ifCond .eq 10) (10) 21 := ⟨by decide +kernel, by decide, by decide⟩
theorem D129_21 : decode (mB 129) 21 = .ok (.iconst (-1), 1) := by decide +kernel
theorem D129_22 : decode (mB 129) 22 = .ok (.ireturn, 1) := by decide +kernel
theorem D129_14 : decode (mB 129) 14 = .ok (.iload_n 2, 1) := by decide +kernel
theorem D129_15 : CS 129 15 125 2 := ⟨.invokestatic 201, by decide +kernel, by decide +kernel, by decide +kernel, by decide⟩
theorem D129_18 : BR 129 18 (.ifCond .ne 5) (5) 23 := ⟨by decide +kernel, by decide, by decide⟩
theorem D129_23 : decode (mB 129) 23 = .ok (.aload_n 0, 1) := by decide +kernel
theorem D129_24 : GF 129 24 9 2 2 := ⟨26, true, by decide +kernel, by decide +kernel⟩
theorem D129_27 : GF 129 27 6 1 2 := ⟨108, true, by decide +kernel, by decide +kernel⟩
theorem D129_30 : decode (mB 129) 30 = .ok (.iload_n 1, 1) := by decide +kernel
theorem D129_31 : CS 129 31 115 0 := ⟨.invokevirtual 173, by decide +kernel, by decide +kernel, by decide +kernel, by decide⟩
theorem D129_34 : decode (mB 129) 34 = .ok (.lstore_n 3, 1) := by decide +kernel
theorem D129_35 : decode (mB 129) 35 = .ok (.aload_n 0, 1) := by decide +kernel
theorem D129_36 : CS 129 36 97 0 := ⟨.invokevirtual 167, by decide +kernel, by decide +kernel, by decide +kernel, by decide⟩
theorem D129_39 : decode (mB 129) 39 = .ok (.lload_n 3, 1) := by decide +kernel
theorem D129_40 : CS 129 40 122 2 := ⟨.invokestatic 197, by decide +kernel, by decide +kernel, by decide +kernel, by decide⟩
theorem D129_43 : decode (mB 129) 43 = .ok (.istore 5, 2) := by decide +kernel
theorem D129_45 : decode (mB 129) 45 = .ok (.iload 5, 2) := by decide +kernel
theorem D129_47 : decode (mB 129) 47 = .ok (.iconst 1, 1) := by decide +kernel
theorem D129_48 : BR 129 48 (.if_icmp .le 5) (5) 53 := ⟨by decide +kernel, by decide, by decide⟩
theorem D129_53 : decode (mB 129) 53 = .ok (.aload_n 0, 1) := by decide +kernel
theorem D129_54 : decode (mB 129) 54 = .ok (.iload 5, 2) := by decide +kernel
theorem D129_56 : decode (mB 129) 56 = .ok (.iconst 1, 1) := by decide +kernel
theorem D129_57 : BR 129 57 (.if_icmp .ne 11) (11) 68 := ⟨by decide +kernel, by decide, by decide⟩
theorem D129_68 : decode (mB 129) 68 = .ok (.lload_n 3, 1) := by decide +kernel
theorem D129_69 : CS 129 69 130 0 := ⟨.invokevirtual 219, by decide +kernel, by decide +kernel, by decide +kernel, by decide⟩
theorem D129_72 : decode (mB 129) 72 = .ok (.iload_n 2, 1) := by decide +kernel
theorem D129_73 : CS 129 73 135 2 := ⟨.invokestatic 222, by decide +kernel, by decide +kernel, by decide +kernel, by decide⟩
theorem D129_76 : decode (mB 129) 76 = .ok (.ireturn, 1) := by decide +kernel
theorem D129_60 : decode (mB 129) 60 = .ok (.lload_n 3, 1) := by decide +kernel
theorem R129_61 : lRes (mC 129) 204 = some (-1) := by decide +kernel
theorem D129_61 : decode (mB 129) 61 = .ok (.ldc2_w 204, 3) := by decide +kernel
theorem D129_64 : decode (mB 129) 64 = .ok (.lxor, 1) := by decide +kernel
theorem D129_65 : BR 129 65 (.goto 4) (4) 69 := ⟨by decide +kernel, by decide, by decide⟩
theorem D129_51 : decode (mB 129) 51 = .ok (.iconst (-1), 1) := by decide +kernel
theorem D129_52 : decode (mB 129) 52 = .ok (.ireturn, 1) := by decide +kernel
theorem LC_proof_e (d : Nat) (a0 : Nat) (x1 : Int32) (x2 : Int32) (m : eM) (h_a0 : kd a0 = 9) : LC_proof (d + 1) a0 x1 x2 m = bR (gR m a0 2) fun r1 => gd r1 6 (bR (gR m r1 1) fun r3 => gd r3 7 (bI (Tk_isIn d r3 x1 m) fun v6 m5 => if v6 = 0 then (yI (-1 : Int32) m5) else (bI (LC_isWhat d x2 m5) fun v8 m7 => if ¬ v8 = 0 then (bR (gR m7 a0 2) fun r9 => gd r9 6 (bR (gR m7 r9 1) fun r11 => gd r11 7 (bL (Tk_so d r11 x1 m7) fun v14 m13 => bL (LC_possible d a0 m13) fun v16 m15 => bI (LC_sureness d v16 v14 m15) fun v18 m17 => if v18 ≤ (1 : Int32) then (if ¬ v18 = (1 : Int32) then (bI (LC_fewestLooksWithout d a0 v14 m17) fun v20 m19 => bI (LC_sizeOrSet d v20 x2 m19) fun v22 m21 => yI v22 m21) else (bI (LC_fewestLooksWithout d a0 (v14 ^^^ (-1 : Int64)) m17) fun v24 m23 => bI (LC_sizeOrSet d v24 x2 m23) fun v26 m25 => yI v26 m25)) else (yI (-1 : Int32) m17)))) else (yI (-1 : Int32) m7)))) := by
  unfold LC_proof
  refine (x_aload1 D129_0 rfl).trans ?_
  refine ((x_getR D129_1).trans (gd_t h_a0)).trans (bR_c fun r1 => ?_)
  refine (x_getR D129_4).trans (gd_c fun h2 => bR_c fun r3 => ?_)
  refine (x_iload1 D129_7 rfl).trans ?_
  refine (x_cg D129_8 M73 rfl rfl).trans (gd_c fun h4 => ?_)
  refine (x_cI D129_8 M73 (fun z => by cases z) (I73 _ _) rfl rfl (ok_i M73 (I73 _ _) rfl rfl h4)).trans (bI_c fun v6 m5 => ?_)
  refine (x_ifeq D129_11).trans (i_c ?_ ?_)
  · refine (x_iconst D129_21 (k := -1) (by decide)).trans ?_
    exact x_iret D129_22 M129.2.2.1
  · refine (x_iload1 D129_14 rfl).trans ?_
    refine (x_cI D129_15 M125 (fun z => by cases z) (I125 _) rfl rfl (ok_s M125 (I125 _) rfl rfl)).trans (bI_c fun v8 m7 => ?_)
    refine (x_ifne D129_18).trans (i_c ?_ ?_)
    · refine (x_aload1 D129_23 rfl).trans ?_
      refine ((x_getR D129_24).trans (gd_t h_a0)).trans (bR_c fun r9 => ?_)
      refine (x_getR D129_27).trans (gd_c fun h10 => bR_c fun r11 => ?_)
      refine (x_iload1 D129_30 rfl).trans ?_
      refine (x_cg D129_31 M115 rfl rfl).trans (gd_c fun h12 => ?_)
      refine (x_cL D129_31 M115  (I115 _ _) rfl rfl (ok_i M115 (I115 _ _) rfl rfl h12)).trans (bL_c fun v14 m13 => ?_)
      refine (x_lstore1 D129_34 (ls' := [.ref a0, .int x1, .int x2, .long v14, eU, eU]) rfl rfl).trans ?_
      refine (x_aload1 D129_35 rfl).trans ?_
      refine (x_cL D129_36 M97  (I97 _) rfl rfl (ok_i M97 (I97 _) rfl rfl h_a0)).trans (bL_c fun v16 m15 => ?_)
      refine (x_lload1 D129_39 rfl).trans ?_
      refine (x_cI D129_40 M122 (fun z => by cases z) (I122 _ _) rfl rfl (ok_s M122 (I122 _ _) rfl rfl)).trans (bI_c fun v18 m17 => ?_)
      refine (x_istore2 D129_43 (ls' := [.ref a0, .int x1, .int x2, .long v14, eU, .int v18]) rfl rfl).trans ?_
      refine (x_iload2 D129_45 rfl).trans ?_
      refine (x_iconst D129_47 (k := 1) (by decide)).trans ?_
      refine (x_cle D129_48).trans (i_c ?_ ?_)
      · refine (x_aload1 D129_53 rfl).trans ?_
        refine (x_iload2 D129_54 rfl).trans ?_
        refine (x_iconst D129_56 (k := 1) (by decide)).trans ?_
        refine (x_cne D129_57).trans (i_c ?_ ?_)
        · refine (x_lload1 D129_68 rfl).trans ?_
          refine (x_cI D129_69 M130 (fun z => by cases z) (I130 _ _) rfl rfl (ok_i M130 (I130 _ _) rfl rfl h_a0)).trans (bI_c fun v20 m19 => ?_)
          refine (x_iload1 D129_72 rfl).trans ?_
          refine (x_cI D129_73 M135 (fun z => by cases z) (I135 _ _) rfl rfl (ok_s M135 (I135 _ _) rfl rfl)).trans (bI_c fun v22 m21 => ?_)
          exact x_iret D129_76 M129.2.2.1
        · refine (x_lload1 D129_60 rfl).trans ?_
          refine (x_ldc2 D129_61 R129_61).trans ?_
          refine (x_lxor D129_64).trans ?_
          refine (x_goto D129_65).trans ?_
          refine (x_cI D129_69 M130 (fun z => by cases z) (I130 _ _) rfl rfl (ok_i M130 (I130 _ _) rfl rfl h_a0)).trans (bI_c fun v24 m23 => ?_)
          refine (x_iload1 D129_72 rfl).trans ?_
          refine (x_cI D129_73 M135 (fun z => by cases z) (I135 _ _) rfl rfl (ok_s M135 (I135 _ _) rfl rfl)).trans (bI_c fun v26 m25 => ?_)
          exact x_iret D129_76 M129.2.2.1
      · refine (x_iconst D129_51 (k := -1) (by decide)).trans ?_
        exact x_iret D129_52 M129.2.2.1
    · refine (x_iconst D129_21 (k := -1) (by decide)).trans ?_
      exact x_iret D129_22 M129.2.2.1
theorem D130_0 : decode (mB 130) 0 = .ok (.aload_n 0, 1) := by decide +kernel
theorem D130_1 : GF 130 1 9 2 2 := ⟨26, true, by decide +kernel, by decide +kernel⟩
theorem D130_4 : GF 130 4 6 3 2 := ⟨145, true, by decide +kernel, by decide +kernel⟩
theorem D130_7 : CS 130 7 91 0 := ⟨.invokevirtual 149, by decide +kernel, by decide +kernel, by decide +kernel, by decide⟩
theorem D130_10 : decode (mB 130) 10 = .ok (.aload_n 0, 1) := by decide +kernel
theorem D130_11 : GF 130 11 9 10 2 := ⟨69, true, by decide +kernel, by decide +kernel⟩
theorem D130_14 : decode (mB 130) 14 = .ok (.arraylength, 1) := by decide +kernel
theorem D130_15 : MA 130 15 1 := ⟨393, by decide +kernel, by decide +kernel, by decide +kernel⟩
theorem D130_18 : decode (mB 130) 18 = .ok (.istore_n 3, 1) := by decide +kernel
theorem D130_19 : decode (mB 130) 19 = .ok (.iconst 0, 1) := by decide +kernel
theorem D130_20 : decode (mB 130) 20 = .ok (.istore 4, 2) := by decide +kernel
theorem D130_22 : decode (mB 130) 22 = .ok (.iload 4, 2) := by decide +kernel
theorem D130_24 : decode (mB 130) 24 = .ok (.iload_n 3, 1) := by decide +kernel
theorem D130_25 : BR 130 25 (.if_icmp .ge 22) (22) 47 := ⟨by decide +kernel, by decide, by decide⟩
theorem D130_47 : decode (mB 130) 47 = .ok (.iconst (-1), 1) := by decide +kernel
theorem D130_48 : decode (mB 130) 48 = .ok (.istore 4, 2) := by decide +kernel
theorem D130_50 : decode (mB 130) 50 = .ok (.iconst 0, 1) := by decide +kernel
theorem D130_51 : decode (mB 130) 51 = .ok (.istore 5, 2) := by decide +kernel
theorem D130_28 : decode (mB 130) 28 = .ok (.aload_n 0, 1) := by decide +kernel
theorem D130_29 : GF 130 29 9 10 2 := ⟨69, true, by decide +kernel, by decide +kernel⟩
theorem D130_32 : decode (mB 130) 32 = .ok (.iload 4, 2) := by decide +kernel
theorem D130_34 : decode (mB 130) 34 = .ok (.aload_n 0, 1) := by decide +kernel
theorem D130_35 : decode (mB 130) 35 = .ok (.iload 4, 2) := by decide +kernel
theorem D130_37 : CS 130 37 98 0 := ⟨.invokevirtual 273, by decide +kernel, by decide +kernel, by decide +kernel, by decide⟩
theorem D130_40 : decode (mB 130) 40 = .ok (.lastore, 1) := by decide +kernel
theorem D130_41 : decode (mB 130) 41 = .ok (.iinc 4 1, 3) := by decide +kernel
theorem D130_44 : BR 130 44 (.goto (-22)) (-22) 22 := ⟨by decide +kernel, by decide, by decide⟩
theorem D130_53 : decode (mB 130) 53 = .ok (.iload 5, 2) := by decide +kernel
theorem D130_55 : decode (mB 130) 55 = .ok (.iconst 1, 1) := by decide +kernel
theorem D130_56 : decode (mB 130) 56 = .ok (.iload_n 3, 1) := by decide +kernel
theorem D130_57 : decode (mB 130) 57 = .ok (.ishl, 1) := by decide +kernel
theorem D130_58 : BR 130 58 (.if_icmp .ge 60) (60) 118 := ⟨by decide +kernel, by decide, by decide⟩
theorem D130_118 : decode (mB 130) 118 = .ok (.iload 4, 2) := by decide +kernel
theorem D130_120 : decode (mB 130) 120 = .ok (.ireturn, 1) := by decide +kernel
theorem D130_61 : decode (mB 130) 61 = .ok (.iload 5, 2) := by decide +kernel
theorem D130_63 : decode (mB 130) 63 = .ok (.aload_n 0, 1) := by decide +kernel
theorem D130_64 : GF 130 64 9 11 2 := ⟨73, true, by decide +kernel, by decide +kernel⟩
theorem D130_67 : decode (mB 130) 67 = .ok (.arraylength, 1) := by decide +kernel
theorem D130_68 : BR 130 68 (.if_icmp .ge 50) (50) 118 := ⟨by decide +kernel, by decide, by decide⟩
theorem D130_71 : decode (mB 130) 71 = .ok (.aload_n 0, 1) := by decide +kernel
theorem D130_72 : GF 130 72 9 11 2 := ⟨73, true, by decide +kernel, by decide +kernel⟩
theorem D130_75 : decode (mB 130) 75 = .ok (.iload 5, 2) := by decide +kernel
theorem D130_77 : decode (mB 130) 77 = .ok (.aload_n 0, 1) := by decide +kernel
theorem D130_78 : decode (mB 130) 78 = .ok (.iload 5, 2) := by decide +kernel
theorem D130_80 : CS 130 80 131 0 := ⟨.invokevirtual 429, by decide +kernel, by decide +kernel, by decide +kernel, by decide⟩
theorem D130_83 : decode (mB 130) 83 = .ok (.lastore, 1) := by decide +kernel
theorem D130_84 : decode (mB 130) 84 = .ok (.iload 5, 2) := by decide +kernel
theorem D130_86 : decode (mB 130) 86 = .ok (.iload 4, 2) := by decide +kernel
theorem D130_88 : CS 130 88 133 2 := ⟨.invokestatic 328, by decide +kernel, by decide +kernel, by decide +kernel, by decide⟩
theorem D130_91 : BR 130 91 (.ifCond .eq 21) (21) 112 := ⟨by decide +kernel, by decide, by decide⟩
theorem D130_112 : decode (mB 130) 112 = .ok (.iinc 5 1, 3) := by decide +kernel
theorem D130_115 : BR 130 115 (.goto (-62)) (-62) 53 := ⟨by decide +kernel, by decide, by decide⟩
theorem D130_94 : decode (mB 130) 94 = .ok (.aload_n 0, 1) := by decide +kernel
theorem D130_95 : GF 130 95 9 11 2 := ⟨73, true, by decide +kernel, by decide +kernel⟩
theorem D130_98 : decode (mB 130) 98 = .ok (.iload 5, 2) := by decide +kernel
theorem D130_100 : decode (mB 130) 100 = .ok (.laload, 1) := by decide +kernel
theorem D130_101 : decode (mB 130) 101 = .ok (.lload_n 1, 1) := by decide +kernel
theorem D130_102 : decode (mB 130) 102 = .ok (.land, 1) := by decide +kernel
theorem D130_103 : decode (mB 130) 103 = .ok (.lconst 0, 1) := by decide +kernel
theorem D130_104 : decode (mB 130) 104 = .ok (.lcmp, 1) := by decide +kernel
theorem D130_105 : BR 130 105 (.ifCond .ne 7) (7) 112 := ⟨by decide +kernel, by decide, by decide⟩
theorem D130_108 : decode (mB 130) 108 = .ok (.iload 5, 2) := by decide +kernel
theorem D130_110 : decode (mB 130) 110 = .ok (.istore 4, 2) := by decide +kernel
theorem LC_fewestLooksWithout_e (d : Nat) (a0 : Nat) (y1 : Int64) (m : eM) (h_a0 : kd a0 = 9) : LC_fewestLooksWithout (d + 1) a0 y1 m = bR (gR m a0 2) fun r1 => gd r1 6 (bR (gR m r1 3) fun r3 => gd r3 3 (bI (Lo_size d r3 m) fun v6 m5 => bR (gR m5 a0 10) fun r7 => gl r7 (LC_fewestLooksWithout_22 (d + 1) a0 y1 (iMin v6 ((aln m5 r7).toInt32)) (0 : Int32) m5))) := by
  unfold LC_fewestLooksWithout
  refine (x_aload1 D130_0 rfl).trans ?_
  refine ((x_getR D130_1).trans (gd_t h_a0)).trans (bR_c fun r1 => ?_)
  refine (x_getR D130_4).trans (gd_c fun h2 => bR_c fun r3 => ?_)
  refine (x_cg D130_7 M91 rfl rfl).trans (gd_c fun h4 => ?_)
  refine (x_cI D130_7 M91 (fun z => by cases z) (I91 _) rfl rfl (ok_i M91 (I91 _) rfl rfl h4)).trans (bI_c fun v6 m5 => ?_)
  refine (x_aload1 D130_10 rfl).trans ?_
  refine ((x_getR D130_11).trans (gd_t h_a0)).trans (bR_c fun r7 => ?_)
  refine (x_alen D130_14).trans (gl_c ?_)
  refine (x_min D130_15 rfl).trans ?_
  refine (x_istore1 D130_18 (ls' := [.ref a0, .long y1, eU, .int (iMin v6 ((aln m5 r7).toInt32)), eU, eU]) rfl rfl).trans ?_
  refine (x_iconst D130_19 (k := 0) (by decide)).trans ?_
  refine (x_istore2 D130_20 (ls' := [.ref a0, .long y1, eU, .int (iMin v6 ((aln m5 r7).toInt32)), .int (0 : Int32), eU]) rfl rfl).trans ?_
  rfl
theorem LC_fewestLooksWithout_22_e (d : Nat) (a0 : Nat) (y1 : Int64) (x3 : Int32) (x4 : Int32) (m : eM) (h_a0 : kd a0 = 9) : LC_fewestLooksWithout_22 (d + 1) a0 y1 x3 x4 m = if x3 ≤ x4 then (LC_fewestLooksWithout_53 (d + 1) a0 y1 x3 (-1 : Int32) (0 : Int32) m) else (bR (gR m a0 10) fun r1 => bL (LC_fitting d a0 x4 m) fun v3 m2 => gw m2 r1 21 x4 (mJ m2 r1 x4.toNatClampNeg v3 fun m4 => LC_fewestLooksWithout_22 (d + 1) a0 y1 x3 (x4 + (1 : Int32)) m4)) := by
  unfold LC_fewestLooksWithout_22
  refine (x_iload2 D130_22 rfl).trans ?_
  refine (x_iload1 D130_24 rfl).trans ?_
  refine (x_cge D130_25).trans (i_c ?_ ?_)
  · refine (x_iconst D130_47 (k := -1) (by decide)).trans ?_
    refine (x_istore2 D130_48 (ls' := [.ref a0, .long y1, eU, .int x3, .int (-1 : Int32), eU]) rfl rfl).trans ?_
    refine (x_iconst D130_50 (k := 0) (by decide)).trans ?_
    refine (x_istore2 D130_51 (ls' := [.ref a0, .long y1, eU, .int x3, .int (-1 : Int32), .int (0 : Int32)]) rfl rfl).trans ?_
    rfl
  · refine (x_aload1 D130_28 rfl).trans ?_
    refine ((x_getR D130_29).trans (gd_t h_a0)).trans (bR_c fun r1 => ?_)
    refine (x_iload2 D130_32 rfl).trans ?_
    refine (x_aload1 D130_34 rfl).trans ?_
    refine (x_iload2 D130_35 rfl).trans ?_
    refine (x_cL D130_37 M98  (I98 _ _) rfl rfl (ok_i M98 (I98 _ _) rfl rfl h_a0)).trans (bL_c fun v3 m2 => ?_)
    refine (x_lastore D130_40).trans (gw_c ?_)
    refine mJ_i (fun m4 => X (d + 1) 130 41 [.ref a0, .long y1, eU, .int x3, .int x4, eU] [] m4) _ ?_
    intro m4
    refine (x_iinc D130_41 rfl (k := 1) (by decide) (ls' := [.ref a0, .long y1, eU, .int x3, .int (x4 + (1 : Int32)), eU]) rfl).trans ?_
    refine (x_goto D130_44).trans ?_
    rfl
theorem LC_fewestLooksWithout_53_e (d : Nat) (a0 : Nat) (y1 : Int64) (x3 : Int32) (x4 : Int32) (x5 : Int32) (m : eM) (h_a0 : kd a0 = 9) : LC_fewestLooksWithout_53 (d + 1) a0 y1 x3 x4 x5 m = if ((1 : Int32) <<< (x3 &&& 31)) ≤ x5 then (yI x4 m) else (bR (gR m a0 11) fun r1 => gl r1 (if ((aln m r1).toInt32) ≤ x5 then (yI x4 m) else (bR (gR m a0 11) fun r2 => bL (LC_fittingSet d a0 x5 m) fun v4 m3 => gw m3 r2 21 x5 (mJ m3 r2 x5.toNatClampNeg v4 fun m5 => bI (LC_isFewer d x5 x4 m5) fun v7 m6 => if v7 = 0 then (LC_fewestLooksWithout_53 (d + 1) a0 y1 x3 x4 (x5 + (1 : Int32)) m6) else (bR (gR m6 a0 11) fun r8 => ga m6 r8 21 x5 (if ¬ (lg_cmp ((gL m6 r8 x5.toNatClampNeg) &&& y1) (0 : Int64)) = 0 then (LC_fewestLooksWithout_53 (d + 1) a0 y1 x3 x4 (x5 + (1 : Int32)) m6) else (LC_fewestLooksWithout_53 (d + 1) a0 y1 x3 x5 (x5 + (1 : Int32)) m6))))))) := by
  unfold LC_fewestLooksWithout_53
  refine (x_iload2 D130_53 rfl).trans ?_
  refine (x_iconst D130_55 (k := 1) (by decide)).trans ?_
  refine (x_iload1 D130_56 rfl).trans ?_
  refine (x_ishl D130_57).trans ?_
  refine (x_cge D130_58).trans (i_c ?_ ?_)
  · refine (x_iload2 D130_118 rfl).trans ?_
    exact x_iret D130_120 M130.2.2.1
  · refine (x_iload2 D130_61 rfl).trans ?_
    refine (x_aload1 D130_63 rfl).trans ?_
    refine ((x_getR D130_64).trans (gd_t h_a0)).trans (bR_c fun r1 => ?_)
    refine (x_alen D130_67).trans (gl_c ?_)
    refine (x_cge D130_68).trans (i_c ?_ ?_)
    · refine (x_iload2 D130_118 rfl).trans ?_
      exact x_iret D130_120 M130.2.2.1
    · refine (x_aload1 D130_71 rfl).trans ?_
      refine ((x_getR D130_72).trans (gd_t h_a0)).trans (bR_c fun r2 => ?_)
      refine (x_iload2 D130_75 rfl).trans ?_
      refine (x_aload1 D130_77 rfl).trans ?_
      refine (x_iload2 D130_78 rfl).trans ?_
      refine (x_cL D130_80 M131  (I131 _ _) rfl rfl (ok_i M131 (I131 _ _) rfl rfl h_a0)).trans (bL_c fun v4 m3 => ?_)
      refine (x_lastore D130_83).trans (gw_c ?_)
      refine mJ_i (fun m5 => X (d + 1) 130 84 [.ref a0, .long y1, eU, .int x3, .int x4, .int x5] [] m5) _ ?_
      intro m5
      refine (x_iload2 D130_84 rfl).trans ?_
      refine (x_iload2 D130_86 rfl).trans ?_
      refine (x_cI D130_88 M133 (fun z => by cases z) (I133 _ _) rfl rfl (ok_s M133 (I133 _ _) rfl rfl)).trans (bI_c fun v7 m6 => ?_)
      refine (x_ifeq D130_91).trans (i_c ?_ ?_)
      · refine (x_iinc D130_112 rfl (k := 1) (by decide) (ls' := [.ref a0, .long y1, eU, .int x3, .int x4, .int (x5 + (1 : Int32))]) rfl).trans ?_
        refine (x_goto D130_115).trans ?_
        rfl
      · refine (x_aload1 D130_94 rfl).trans ?_
        refine ((x_getR D130_95).trans (gd_t h_a0)).trans (bR_c fun r8 => ?_)
        refine (x_iload2 D130_98 rfl).trans ?_
        refine (x_laload D130_100).trans (ga_c ?_)
        refine (x_lload1 D130_101 rfl).trans ?_
        refine (x_land D130_102).trans ?_
        refine (x_lconst0 D130_103).trans ?_
        refine (x_lcmp D130_104).trans ?_
        refine (x_ifne D130_105).trans (i_c ?_ ?_)
        · refine (x_iinc D130_112 rfl (k := 1) (by decide) (ls' := [.ref a0, .long y1, eU, .int x3, .int x4, .int (x5 + (1 : Int32))]) rfl).trans ?_
          refine (x_goto D130_115).trans ?_
          rfl
        · refine (x_iload2 D130_108 rfl).trans ?_
          refine (x_istore2 D130_110 (ls' := [.ref a0, .long y1, eU, .int x3, .int x5, .int x5]) rfl rfl).trans ?_
          refine (x_iinc D130_112 rfl (k := 1) (by decide) (ls' := [.ref a0, .long y1, eU, .int x3, .int x5, .int (x5 + (1 : Int32))]) rfl).trans ?_
          refine (x_goto D130_115).trans ?_
          rfl
theorem D131_0 : decode (mB 131) 0 = .ok (.iload_n 1, 1) := by decide +kernel
theorem D131_1 : CS 131 1 132 2 := ⟨.invokestatic 432, by decide +kernel, by decide +kernel, by decide +kernel, by decide⟩
theorem D131_4 : decode (mB 131) 4 = .ok (.istore_n 2, 1) := by decide +kernel
theorem D131_5 : decode (mB 131) 5 = .ok (.iload_n 1, 1) := by decide +kernel
theorem D131_6 : decode (mB 131) 6 = .ok (.iload_n 1, 1) := by decide +kernel
theorem D131_7 : decode (mB 131) 7 = .ok (.iconst 1, 1) := by decide +kernel
theorem D131_8 : decode (mB 131) 8 = .ok (.isub, 1) := by decide +kernel
theorem D131_9 : decode (mB 131) 9 = .ok (.iand, 1) := by decide +kernel
theorem D131_10 : decode (mB 131) 10 = .ok (.istore_n 3, 1) := by decide +kernel
theorem D131_11 : decode (mB 131) 11 = .ok (.iload_n 1, 1) := by decide +kernel
theorem D131_12 : BR 131 12 (.ifCond .le 21) (21) 33 := ⟨by decide +kernel, by decide, by decide⟩
theorem D131_33 : decode (mB 131) 33 = .ok (.aload_n 0, 1) := by decide +kernel
theorem D131_34 : GF 131 34 9 2 2 := ⟨26, true, by decide +kernel, by decide +kernel⟩
theorem D131_37 : GF 131 37 6 0 2 := ⟨124, false, by decide +kernel, by decide +kernel⟩
theorem D131_40 : CS 131 40 95 0 := ⟨.invokevirtual 159, by decide +kernel, by decide +kernel, by decide +kernel, by decide⟩
theorem D131_43 : decode (mB 131) 43 = .ok (.lreturn, 1) := by decide +kernel
theorem D131_15 : decode (mB 131) 15 = .ok (.iload_n 3, 1) := by decide +kernel
theorem D131_16 : decode (mB 131) 16 = .ok (.aload_n 0, 1) := by decide +kernel
theorem D131_17 : GF 131 17 9 11 2 := ⟨73, true, by decide +kernel, by decide +kernel⟩
theorem D131_20 : decode (mB 131) 20 = .ok (.arraylength, 1) := by decide +kernel
theorem D131_21 : BR 131 21 (.if_icmp .ge 12) (12) 33 := ⟨by decide +kernel, by decide, by decide⟩
theorem D131_24 : decode (mB 131) 24 = .ok (.iload_n 2, 1) := by decide +kernel
theorem D131_25 : decode (mB 131) 25 = .ok (.aload_n 0, 1) := by decide +kernel
theorem D131_26 : GF 131 26 9 10 2 := ⟨69, true, by decide +kernel, by decide +kernel⟩
theorem D131_29 : decode (mB 131) 29 = .ok (.arraylength, 1) := by decide +kernel
theorem D131_30 : BR 131 30 (.if_icmp .lt 14) (14) 44 := ⟨by decide +kernel, by decide, by decide⟩
theorem D131_44 : decode (mB 131) 44 = .ok (.aload_n 0, 1) := by decide +kernel
theorem D131_45 : GF 131 45 9 11 2 := ⟨73, true, by decide +kernel, by decide +kernel⟩
theorem D131_48 : decode (mB 131) 48 = .ok (.iload_n 3, 1) := by decide +kernel
theorem D131_49 : decode (mB 131) 49 = .ok (.laload, 1) := by decide +kernel
theorem D131_50 : decode (mB 131) 50 = .ok (.aload_n 0, 1) := by decide +kernel
theorem D131_51 : GF 131 51 9 10 2 := ⟨69, true, by decide +kernel, by decide +kernel⟩
theorem D131_54 : decode (mB 131) 54 = .ok (.iload_n 2, 1) := by decide +kernel
theorem D131_55 : decode (mB 131) 55 = .ok (.laload, 1) := by decide +kernel
theorem D131_56 : decode (mB 131) 56 = .ok (.land, 1) := by decide +kernel
theorem D131_57 : decode (mB 131) 57 = .ok (.lreturn, 1) := by decide +kernel
theorem LC_fittingSet_e (d : Nat) (a0 : Nat) (x1 : Int32) (m : eM) (h_a0 : kd a0 = 9) : LC_fittingSet (d + 1) a0 x1 m = bI (In_numberOfTrailingZeros d x1 m) fun v2 m1 => if x1 ≤ 0 then (bR (gR m1 a0 2) fun r3 => gd r3 6 (bR (gR m1 r3 0) fun r5 => gd r5 4 (bL (Pa_commonWorlds d r5 m1) fun v8 m7 => yL v8 m7))) else (bR (gR m1 a0 11) fun r9 => gl r9 (if ((aln m1 r9).toInt32) ≤ (x1 &&& (x1 - (1 : Int32))) then (bR (gR m1 a0 2) fun r10 => gd r10 6 (bR (gR m1 r10 0) fun r12 => gd r12 4 (bL (Pa_commonWorlds d r12 m1) fun v15 m14 => yL v15 m14))) else (bR (gR m1 a0 10) fun r16 => gl r16 (if v2 < ((aln m1 r16).toInt32) then (bR (gR m1 a0 11) fun r17 => ga m1 r17 21 (x1 &&& (x1 - (1 : Int32))) (bR (gR m1 a0 10) fun r18 => ga m1 r18 21 v2 (yL ((gL m1 r17 (x1 &&& (x1 - (1 : Int32))).toNatClampNeg) &&& (gL m1 r18 v2.toNatClampNeg)) m1))) else (bR (gR m1 a0 2) fun r19 => gd r19 6 (bR (gR m1 r19 0) fun r21 => gd r21 4 (bL (Pa_commonWorlds d r21 m1) fun v24 m23 => yL v24 m23))))))) := by
  unfold LC_fittingSet
  refine (x_iload1 D131_0 rfl).trans ?_
  refine (x_cI D131_1 M132 (fun z => by cases z) (I132 _) rfl rfl (ok_s M132 (I132 _) rfl rfl)).trans (bI_c fun v2 m1 => ?_)
  refine (x_istore1 D131_4 (ls' := [.ref a0, .int x1, .int v2, eU]) rfl rfl).trans ?_
  refine (x_iload1 D131_5 rfl).trans ?_
  refine (x_iload1 D131_6 rfl).trans ?_
  refine (x_iconst D131_7 (k := 1) (by decide)).trans ?_
  refine (x_isub D131_8).trans ?_
  refine (x_iand D131_9).trans ?_
  refine (x_istore1 D131_10 (ls' := [.ref a0, .int x1, .int v2, .int (x1 &&& (x1 - (1 : Int32)))]) rfl rfl).trans ?_
  refine (x_iload1 D131_11 rfl).trans ?_
  refine (x_ifle D131_12).trans (i_c ?_ ?_)
  · refine (x_aload1 D131_33 rfl).trans ?_
    refine ((x_getR D131_34).trans (gd_t h_a0)).trans (bR_c fun r3 => ?_)
    refine (x_getR D131_37).trans (gd_c fun h4 => bR_c fun r5 => ?_)
    refine (x_cg D131_40 M95 rfl rfl).trans (gd_c fun h6 => ?_)
    refine (x_cL D131_40 M95  (I95 _) rfl rfl (ok_i M95 (I95 _) rfl rfl h6)).trans (bL_c fun v8 m7 => ?_)
    exact x_lret D131_43 M131.2.2.1
  · refine (x_iload1 D131_15 rfl).trans ?_
    refine (x_aload1 D131_16 rfl).trans ?_
    refine ((x_getR D131_17).trans (gd_t h_a0)).trans (bR_c fun r9 => ?_)
    refine (x_alen D131_20).trans (gl_c ?_)
    refine (x_cge D131_21).trans (i_c ?_ ?_)
    · refine (x_aload1 D131_33 rfl).trans ?_
      refine ((x_getR D131_34).trans (gd_t h_a0)).trans (bR_c fun r10 => ?_)
      refine (x_getR D131_37).trans (gd_c fun h11 => bR_c fun r12 => ?_)
      refine (x_cg D131_40 M95 rfl rfl).trans (gd_c fun h13 => ?_)
      refine (x_cL D131_40 M95  (I95 _) rfl rfl (ok_i M95 (I95 _) rfl rfl h13)).trans (bL_c fun v15 m14 => ?_)
      exact x_lret D131_43 M131.2.2.1
    · refine (x_iload1 D131_24 rfl).trans ?_
      refine (x_aload1 D131_25 rfl).trans ?_
      refine ((x_getR D131_26).trans (gd_t h_a0)).trans (bR_c fun r16 => ?_)
      refine (x_alen D131_29).trans (gl_c ?_)
      refine (x_clt D131_30).trans (i_c ?_ ?_)
      · refine (x_aload1 D131_44 rfl).trans ?_
        refine ((x_getR D131_45).trans (gd_t h_a0)).trans (bR_c fun r17 => ?_)
        refine (x_iload1 D131_48 rfl).trans ?_
        refine (x_laload D131_49).trans (ga_c ?_)
        refine (x_aload1 D131_50 rfl).trans ?_
        refine ((x_getR D131_51).trans (gd_t h_a0)).trans (bR_c fun r18 => ?_)
        refine (x_iload1 D131_54 rfl).trans ?_
        refine (x_laload D131_55).trans (ga_c ?_)
        refine (x_land D131_56).trans ?_
        exact x_lret D131_57 M131.2.2.1
      · refine (x_aload1 D131_33 rfl).trans ?_
        refine ((x_getR D131_34).trans (gd_t h_a0)).trans (bR_c fun r19 => ?_)
        refine (x_getR D131_37).trans (gd_c fun h20 => bR_c fun r21 => ?_)
        refine (x_cg D131_40 M95 rfl rfl).trans (gd_c fun h22 => ?_)
        refine (x_cL D131_40 M95  (I95 _) rfl rfl (ok_i M95 (I95 _) rfl rfl h22)).trans (bL_c fun v24 m23 => ?_)
        exact x_lret D131_43 M131.2.2.1
theorem D133_0 : decode (mB 133) 0 = .ok (.iload_n 1, 1) := by decide +kernel
theorem D133_1 : decode (mB 133) 1 = .ok (.iconst (-1), 1) := by decide +kernel
theorem D133_2 : BR 133 2 (.if_icmp .eq 14) (14) 16 := ⟨by decide +kernel, by decide, by decide⟩
theorem D133_16 : decode (mB 133) 16 = .ok (.iconst 1, 1) := by decide +kernel
theorem D133_17 : BR 133 17 (.goto 4) (4) 21 := ⟨by decide +kernel, by decide, by decide⟩
theorem D133_21 : decode (mB 133) 21 = .ok (.ireturn, 1) := by decide +kernel
theorem D133_5 : decode (mB 133) 5 = .ok (.iload_n 0, 1) := by decide +kernel
theorem D133_6 : CS 133 6 134 2 := ⟨.invokestatic 362, by decide +kernel, by decide +kernel, by decide +kernel, by decide⟩
theorem D133_9 : decode (mB 133) 9 = .ok (.iload_n 1, 1) := by decide +kernel
theorem D133_10 : CS 133 10 134 2 := ⟨.invokestatic 362, by decide +kernel, by decide +kernel, by decide +kernel, by decide⟩
theorem D133_13 : BR 133 13 (.if_icmp .ge 7) (7) 20 := ⟨by decide +kernel, by decide, by decide⟩
theorem D133_20 : decode (mB 133) 20 = .ok (.iconst 0, 1) := by decide +kernel
theorem LC_isFewer_e (d : Nat) (x0 : Int32) (x1 : Int32) (m : eM)  : LC_isFewer (d + 1) x0 x1 m = if x1 = (-1 : Int32) then (yI (1 : Int32) m) else (bI (In_bitCount d x0 m) fun v2 m1 => bI (In_bitCount d x1 m1) fun v4 m3 => if v4 ≤ v2 then (yI (0 : Int32) m3) else (yI (1 : Int32) m3)) := by
  unfold LC_isFewer
  refine (x_iload1 D133_0 rfl).trans ?_
  refine (x_iconst D133_1 (k := -1) (by decide)).trans ?_
  refine (x_ceq D133_2).trans (i_c ?_ ?_)
  · refine (x_iconst D133_16 (k := 1) (by decide)).trans ?_
    refine (x_goto D133_17).trans ?_
    exact (x_bret D133_21 M133.2.2.1).trans yB1
  · refine (x_iload1 D133_5 rfl).trans ?_
    refine (x_cI D133_6 M134 (fun z => by cases z) (I134 _) rfl rfl (ok_s M134 (I134 _) rfl rfl)).trans (bI_c fun v2 m1 => ?_)
    refine (x_iload1 D133_9 rfl).trans ?_
    refine (x_cI D133_10 M134 (fun z => by cases z) (I134 _) rfl rfl (ok_s M134 (I134 _) rfl rfl)).trans (bI_c fun v4 m3 => ?_)
    refine (x_cge D133_13).trans (i_c ?_ ?_)
    · refine (x_iconst D133_20 (k := 0) (by decide)).trans ?_
      exact (x_bret D133_21 M133.2.2.1).trans yB0
    · refine (x_iconst D133_16 (k := 1) (by decide)).trans ?_
      refine (x_goto D133_17).trans ?_
      exact (x_bret D133_21 M133.2.2.1).trans yB1
theorem D135_0 : decode (mB 135) 0 = .ok (.iload_n 0, 1) := by decide +kernel
theorem D135_1 : decode (mB 135) 1 = .ok (.iconst (-1), 1) := by decide +kernel
theorem D135_2 : BR 135 2 (.if_icmp .ne 5) (5) 7 := ⟨by decide +kernel, by decide, by decide⟩
theorem D135_7 : decode (mB 135) 7 = .ok (.iload_n 1, 1) := by decide +kernel
theorem D135_8 : BR 135 8 (.ifCond .ne 10) (10) 18 := ⟨by decide +kernel, by decide, by decide⟩
theorem D135_18 : decode (mB 135) 18 = .ok (.iload_n 0, 1) := by decide +kernel
theorem D135_19 : decode (mB 135) 19 = .ok (.ireturn, 1) := by decide +kernel
theorem D135_11 : decode (mB 135) 11 = .ok (.iload_n 0, 1) := by decide +kernel
theorem D135_12 : CS 135 12 134 2 := ⟨.invokestatic 362, by decide +kernel, by decide +kernel, by decide +kernel, by decide⟩
theorem D135_15 : BR 135 15 (.goto 4) (4) 19 := ⟨by decide +kernel, by decide, by decide⟩
theorem D135_5 : decode (mB 135) 5 = .ok (.iconst (-1), 1) := by decide +kernel
theorem D135_6 : decode (mB 135) 6 = .ok (.ireturn, 1) := by decide +kernel
theorem LC_sizeOrSet_e (d : Nat) (x0 : Int32) (x1 : Int32) (m : eM)  : LC_sizeOrSet (d + 1) x0 x1 m = if ¬ x0 = (-1 : Int32) then (if ¬ x1 = 0 then (yI x0 m) else (bI (In_bitCount d x0 m) fun v2 m1 => yI v2 m1)) else (yI (-1 : Int32) m) := by
  unfold LC_sizeOrSet
  refine (x_iload1 D135_0 rfl).trans ?_
  refine (x_iconst D135_1 (k := -1) (by decide)).trans ?_
  refine (x_cne D135_2).trans (i_c ?_ ?_)
  · refine (x_iload1 D135_7 rfl).trans ?_
    refine (x_ifne D135_8).trans (i_c ?_ ?_)
    · refine (x_iload1 D135_18 rfl).trans ?_
      exact x_iret D135_19 M135.2.2.1
    · refine (x_iload1 D135_11 rfl).trans ?_
      refine (x_cI D135_12 M134 (fun z => by cases z) (I134 _) rfl rfl (ok_s M134 (I134 _) rfl rfl)).trans (bI_c fun v2 m1 => ?_)
      refine (x_goto D135_15).trans ?_
      exact x_iret D135_19 M135.2.2.1
  · refine (x_iconst D135_5 (k := -1) (by decide)).trans ?_
    exact x_iret D135_6 M135.2.2.1
theorem D136_0 : decode (mB 136) 0 = .ok (.iload_n 1, 1) := by decide +kernel
theorem D136_1 : CS 136 1 125 2 := ⟨.invokestatic 201, by decide +kernel, by decide +kernel, by decide +kernel, by decide⟩
theorem D136_4 : BR 136 4 (.ifCond .eq 12) (12) 16 := ⟨by decide +kernel, by decide, by decide⟩
theorem D136_16 : decode (mB 136) 16 = .ok (.iconst (-1), 1) := by decide +kernel
theorem D136_17 : decode (mB 136) 17 = .ok (.ireturn, 1) := by decide +kernel
theorem D136_7 : decode (mB 136) 7 = .ok (.aload_n 0, 1) := by decide +kernel
theorem D136_8 : CS 136 8 97 0 := ⟨.invokevirtual 167, by decide +kernel, by decide +kernel, by decide +kernel, by decide⟩
theorem D136_11 : decode (mB 136) 11 = .ok (.lconst 0, 1) := by decide +kernel
theorem D136_12 : decode (mB 136) 12 = .ok (.lcmp, 1) := by decide +kernel
theorem D136_13 : BR 136 13 (.ifCond .eq 5) (5) 18 := ⟨by decide +kernel, by decide, by decide⟩
theorem D136_18 : decode (mB 136) 18 = .ok (.aload_n 0, 1) := by decide +kernel
theorem D136_19 : decode (mB 136) 19 = .ok (.aload_n 0, 1) := by decide +kernel
theorem D136_20 : GF 136 20 9 2 2 := ⟨26, true, by decide +kernel, by decide +kernel⟩
theorem D136_23 : GF 136 23 6 0 2 := ⟨124, false, by decide +kernel, by decide +kernel⟩
theorem D136_26 : CS 136 26 81 0 := ⟨.invokevirtual 226, by decide +kernel, by decide +kernel, by decide +kernel, by decide⟩
theorem D136_29 : CS 136 29 130 0 := ⟨.invokevirtual 219, by decide +kernel, by decide +kernel, by decide +kernel, by decide⟩
theorem D136_32 : decode (mB 136) 32 = .ok (.iload_n 1, 1) := by decide +kernel
theorem D136_33 : CS 136 33 135 2 := ⟨.invokestatic 222, by decide +kernel, by decide +kernel, by decide +kernel, by decide⟩
theorem D136_36 : decode (mB 136) 36 = .ok (.ireturn, 1) := by decide +kernel
theorem LC_clash_e (d : Nat) (a0 : Nat) (x1 : Int32) (m : eM) (h_a0 : kd a0 = 9) : LC_clash (d + 1) a0 x1 m = bI (LC_isWhat d x1 m) fun v2 m1 => if v2 = 0 then (yI (-1 : Int32) m1) else (bL (LC_possible d a0 m1) fun v4 m3 => if (lg_cmp v4 (0 : Int64)) = 0 then (bR (gR m3 a0 2) fun r5 => gd r5 6 (bR (gR m3 r5 0) fun r7 => gd r7 4 (bL (Pa_allWorlds d r7 m3) fun v10 m9 => bI (LC_fewestLooksWithout d a0 v10 m9) fun v12 m11 => bI (LC_sizeOrSet d v12 x1 m11) fun v14 m13 => yI v14 m13))) else (yI (-1 : Int32) m3)) := by
  unfold LC_clash
  refine (x_iload1 D136_0 rfl).trans ?_
  refine (x_cI D136_1 M125 (fun z => by cases z) (I125 _) rfl rfl (ok_s M125 (I125 _) rfl rfl)).trans (bI_c fun v2 m1 => ?_)
  refine (x_ifeq D136_4).trans (i_c ?_ ?_)
  · refine (x_iconst D136_16 (k := -1) (by decide)).trans ?_
    exact x_iret D136_17 M136.2.2.1
  · refine (x_aload1 D136_7 rfl).trans ?_
    refine (x_cL D136_8 M97  (I97 _) rfl rfl (ok_i M97 (I97 _) rfl rfl h_a0)).trans (bL_c fun v4 m3 => ?_)
    refine (x_lconst0 D136_11).trans ?_
    refine (x_lcmp D136_12).trans ?_
    refine (x_ifeq D136_13).trans (i_c ?_ ?_)
    · refine (x_aload1 D136_18 rfl).trans ?_
      refine (x_aload1 D136_19 rfl).trans ?_
      refine ((x_getR D136_20).trans (gd_t h_a0)).trans (bR_c fun r5 => ?_)
      refine (x_getR D136_23).trans (gd_c fun h6 => bR_c fun r7 => ?_)
      refine (x_cg D136_26 M81 rfl rfl).trans (gd_c fun h8 => ?_)
      refine (x_cL D136_26 M81  (I81 _) rfl rfl (ok_i M81 (I81 _) rfl rfl h8)).trans (bL_c fun v10 m9 => ?_)
      refine (x_cI D136_29 M130 (fun z => by cases z) (I130 _ _) rfl rfl (ok_i M130 (I130 _ _) rfl rfl h_a0)).trans (bI_c fun v12 m11 => ?_)
      refine (x_iload1 D136_32 rfl).trans ?_
      refine (x_cI D136_33 M135 (fun z => by cases z) (I135 _ _) rfl rfl (ok_s M135 (I135 _ _) rfl rfl)).trans (bI_c fun v14 m13 => ?_)
      exact x_iret D136_36 M136.2.2.1
    · refine (x_iconst D136_16 (k := -1) (by decide)).trans ?_
      exact x_iret D136_17 M136.2.2.1
theorem D137_0 : decode (mB 137) 0 = .ok (.aload_n 0, 1) := by decide +kernel
theorem D137_1 : decode (mB 137) 1 = .ok (.iload_n 1, 1) := by decide +kernel
theorem D137_2 : decode (mB 137) 2 = .ok (.iload_n 2, 1) := by decide +kernel
theorem D137_3 : decode (mB 137) 3 = .ok (.iload_n 3, 1) := by decide +kernel
theorem D137_4 : decode (mB 137) 4 = .ok (.iload 4, 2) := by decide +kernel
theorem D137_6 : decode (mB 137) 6 = .ok (.iconst 0, 1) := by decide +kernel
theorem D137_7 : CS 137 7 138 0 := ⟨.invokevirtual 229, by decide +kernel, by decide +kernel, by decide +kernel, by decide⟩
theorem D137_10 : decode (mB 137) 10 = .ok (.ireturn, 1) := by decide +kernel
theorem LC_next_e (d : Nat) (a0 : Nat) (x1 : Int32) (x2 : Int32) (x3 : Int32) (x4 : Int32) (m : eM) (h_a0 : kd a0 = 9) : LC_next (d + 1) a0 x1 x2 x3 x4 m = bI (LC_bestMinute d a0 x1 x2 x3 x4 (0 : Int32) m) fun v2 m1 => yI v2 m1 := by
  unfold LC_next
  refine (x_aload1 D137_0 rfl).trans ?_
  refine (x_iload1 D137_1 rfl).trans ?_
  refine (x_iload1 D137_2 rfl).trans ?_
  refine (x_iload1 D137_3 rfl).trans ?_
  refine (x_iload2 D137_4 rfl).trans ?_
  refine (x_iconst D137_6 (k := 0) (by decide)).trans ?_
  refine (x_cI D137_7 M138 (fun z => by cases z) (I138 _ _ _ _ _ _) rfl rfl (ok_i M138 (I138 _ _ _ _ _ _) rfl rfl h_a0)).trans (bI_c fun v2 m1 => ?_)
  exact x_iret D137_10 M137.2.2.1
theorem D138_0 : decode (mB 138) 0 = .ok (.aload_n 0, 1) := by decide +kernel
theorem D138_1 : GF 138 1 9 2 2 := ⟨26, true, by decide +kernel, by decide +kernel⟩
theorem D138_4 : GF 138 4 6 0 2 := ⟨124, false, by decide +kernel, by decide +kernel⟩
theorem D138_7 : decode (mB 138) 7 = .ok (.iload_n 1, 1) := by decide +kernel
theorem D138_8 : CS 138 8 89 0 := ⟨.invokevirtual 136, by decide +kernel, by decide +kernel, by decide +kernel, by decide⟩
theorem D138_11 : BR 138 11 (.ifCond .eq 19) (19) 30 := ⟨by decide +kernel, by decide, by decide⟩
theorem D138_30 : decode (mB 138) 30 = .ok (.iconst (-1), 1) := by decide +kernel
theorem D138_31 : decode (mB 138) 31 = .ok (.ireturn, 1) := by decide +kernel
theorem D138_14 : decode (mB 138) 14 = .ok (.iload_n 2, 1) := by decide +kernel
theorem D138_15 : decode (mB 138) 15 = .ok (.iload_n 3, 1) := by decide +kernel
theorem D138_16 : CS 138 16 139 2 := ⟨.invokestatic 286, by decide +kernel, by decide +kernel, by decide +kernel, by decide⟩
theorem D138_19 : BR 138 19 (.ifCond .eq 11) (11) 30 := ⟨by decide +kernel, by decide, by decide⟩
theorem D138_22 : decode (mB 138) 22 = .ok (.iload 4, 2) := by decide +kernel
theorem D138_24 : CS 138 24 125 2 := ⟨.invokestatic 201, by decide +kernel, by decide +kernel, by decide +kernel, by decide⟩
theorem D138_27 : BR 138 27 (.ifCond .ne 5) (5) 32 := ⟨by decide +kernel, by decide, by decide⟩
theorem D138_32 : decode (mB 138) 32 = .ok (.aload_n 0, 1) := by decide +kernel
theorem D138_33 : CS 138 33 97 0 := ⟨.invokevirtual 167, by decide +kernel, by decide +kernel, by decide +kernel, by decide⟩
theorem D138_36 : decode (mB 138) 36 = .ok (.lstore 6, 2) := by decide +kernel
theorem D138_38 : decode (mB 138) 38 = .ok (.lload 6, 2) := by decide +kernel
theorem D138_40 : decode (mB 138) 40 = .ok (.lconst 0, 1) := by decide +kernel
theorem D138_41 : decode (mB 138) 41 = .ok (.lcmp, 1) := by decide +kernel
theorem D138_42 : BR 138 42 (.ifCond .ne 5) (5) 47 := ⟨by decide +kernel, by decide, by decide⟩
theorem D138_47 : decode (mB 138) 47 = .ok (.iload_n 2, 1) := by decide +kernel
theorem D138_48 : decode (mB 138) 48 = .ok (.istore 8, 2) := by decide +kernel
theorem D138_50 : decode (mB 138) 50 = .ok (.aload_n 0, 1) := by decide +kernel
theorem D138_51 : decode (mB 138) 51 = .ok (.iload_n 1, 1) := by decide +kernel
theorem D138_52 : decode (mB 138) 52 = .ok (.iload_n 2, 1) := by decide +kernel
theorem D138_53 : decode (mB 138) 53 = .ok (.lload 6, 2) := by decide +kernel
theorem D138_55 : decode (mB 138) 55 = .ok (.iload 5, 2) := by decide +kernel
theorem D138_57 : CS 138 57 140 0 := ⟨.invokevirtual 435, by decide +kernel, by decide +kernel, by decide +kernel, by decide⟩
theorem D138_60 : decode (mB 138) 60 = .ok (.istore 9, 2) := by decide +kernel
theorem D138_62 : decode (mB 138) 62 = .ok (.iconst 0, 1) := by decide +kernel
theorem D138_63 : decode (mB 138) 63 = .ok (.istore 10, 2) := by decide +kernel
theorem D138_45 : decode (mB 138) 45 = .ok (.iconst (-1), 1) := by decide +kernel
theorem D138_46 : decode (mB 138) 46 = .ok (.ireturn, 1) := by decide +kernel
theorem D138_65 : decode (mB 138) 65 = .ok (.iload 10, 2) := by decide +kernel
theorem D138_67 : decode (mB 138) 67 = .ok (.aload_n 0, 1) := by decide +kernel
theorem D138_68 : GF 138 68 9 2 2 := ⟨26, true, by decide +kernel, by decide +kernel⟩
theorem D138_71 : GF 138 71 6 1 2 := ⟨108, true, by decide +kernel, by decide +kernel⟩
theorem D138_74 : CS 138 74 70 0 := ⟨.invokevirtual 111, by decide +kernel, by decide +kernel, by decide +kernel, by decide⟩
theorem D138_77 : BR 138 77 (.if_icmp .ge 80) (80) 157 := ⟨by decide +kernel, by decide, by decide⟩
theorem D138_157 : decode (mB 138) 157 = .ok (.iload 4, 2) := by decide +kernel
theorem D138_159 : BR 138 159 (.ifCond .ne 8) (8) 167 := ⟨by decide +kernel, by decide, by decide⟩
theorem D138_167 : decode (mB 138) 167 = .ok (.iload 9, 2) := by decide +kernel
theorem D138_169 : MA 138 169 2 := ⟨390, by decide +kernel, by decide +kernel, by decide +kernel⟩
theorem D138_172 : decode (mB 138) 172 = .ok (.ireturn, 1) := by decide +kernel
theorem D138_162 : decode (mB 138) 162 = .ok (.iload 8, 2) := by decide +kernel
theorem D138_164 : BR 138 164 (.goto 8) (8) 172 := ⟨by decide +kernel, by decide, by decide⟩
theorem D138_80 : decode (mB 138) 80 = .ok (.aload_n 0, 1) := by decide +kernel
theorem D138_81 : GF 138 81 9 2 2 := ⟨26, true, by decide +kernel, by decide +kernel⟩
theorem D138_84 : GF 138 84 6 1 2 := ⟨108, true, by decide +kernel, by decide +kernel⟩
theorem D138_87 : decode (mB 138) 87 = .ok (.iload 10, 2) := by decide +kernel
theorem D138_89 : CS 138 89 72 0 := ⟨.invokevirtual 338, by decide +kernel, by decide +kernel, by decide +kernel, by decide⟩
theorem D138_92 : decode (mB 138) 92 = .ok (.aload_n 0, 1) := by decide +kernel
theorem D138_93 : GF 138 93 9 2 2 := ⟨26, true, by decide +kernel, by decide +kernel⟩
theorem D138_96 : GF 138 96 6 0 2 := ⟨124, false, by decide +kernel, by decide +kernel⟩
theorem D138_99 : decode (mB 138) 99 = .ok (.iload_n 1, 1) := by decide +kernel
theorem D138_100 : CS 138 100 103 0 := ⟨.invokevirtual 233, by decide +kernel, by decide +kernel, by decide +kernel, by decide⟩
theorem D138_103 : decode (mB 138) 103 = .ok (.iadd, 1) := by decide +kernel
theorem D138_104 : decode (mB 138) 104 = .ok (.istore 11, 2) := by decide +kernel
theorem D138_106 : decode (mB 138) 106 = .ok (.iload 11, 2) := by decide +kernel
theorem D138_108 : decode (mB 138) 108 = .ok (.iload_n 2, 1) := by decide +kernel
theorem D138_109 : BR 138 109 (.if_icmp .le 23) (23) 132 := ⟨by decide +kernel, by decide, by decide⟩
theorem D138_132 : decode (mB 138) 132 = .ok (.iload 9, 2) := by decide +kernel
theorem D138_134 : decode (mB 138) 134 = .ok (.istore 12, 2) := by decide +kernel
theorem D138_136 : decode (mB 138) 136 = .ok (.iload 12, 2) := by decide +kernel
theorem D138_138 : decode (mB 138) 138 = .ok (.iload 9, 2) := by decide +kernel
theorem D138_140 : BR 138 140 (.if_icmp .le 11) (11) 151 := ⟨by decide +kernel, by decide, by decide⟩
theorem D138_151 : decode (mB 138) 151 = .ok (.iinc 10 1, 3) := by decide +kernel
theorem D138_154 : BR 138 154 (.goto (-89)) (-89) 65 := ⟨by decide +kernel, by decide, by decide⟩
theorem D138_143 : decode (mB 138) 143 = .ok (.iload 12, 2) := by decide +kernel
theorem D138_145 : decode (mB 138) 145 = .ok (.istore 9, 2) := by decide +kernel
theorem D138_147 : decode (mB 138) 147 = .ok (.iload 11, 2) := by decide +kernel
theorem D138_149 : decode (mB 138) 149 = .ok (.istore 8, 2) := by decide +kernel
theorem D138_112 : decode (mB 138) 112 = .ok (.iload 11, 2) := by decide +kernel
theorem D138_114 : decode (mB 138) 114 = .ok (.iload_n 3, 1) := by decide +kernel
theorem D138_115 : BR 138 115 (.if_icmp .gt 17) (17) 132 := ⟨by decide +kernel, by decide, by decide⟩
theorem D138_118 : decode (mB 138) 118 = .ok (.aload_n 0, 1) := by decide +kernel
theorem D138_119 : decode (mB 138) 119 = .ok (.iload_n 1, 1) := by decide +kernel
theorem D138_120 : decode (mB 138) 120 = .ok (.iload 11, 2) := by decide +kernel
theorem D138_122 : decode (mB 138) 122 = .ok (.lload 6, 2) := by decide +kernel
theorem D138_124 : decode (mB 138) 124 = .ok (.iload 5, 2) := by decide +kernel
theorem D138_126 : CS 138 126 140 0 := ⟨.invokevirtual 435, by decide +kernel, by decide +kernel, by decide +kernel, by decide⟩
theorem D138_129 : BR 138 129 (.goto 5) (5) 134 := ⟨by decide +kernel, by decide, by decide⟩
theorem LC_bestMinute_e (d : Nat) (a0 : Nat) (x1 : Int32) (x2 : Int32) (x3 : Int32) (x4 : Int32) (x5 : Int32) (m : eM) (h_a0 : kd a0 = 9) : LC_bestMinute (d + 1) a0 x1 x2 x3 x4 x5 m = bR (gR m a0 2) fun r1 => gd r1 6 (bR (gR m r1 0) fun r3 => gd r3 4 (bI (Pa_isThere d r3 x1 m) fun v6 m5 => if v6 = 0 then (yI (-1 : Int32) m5) else (bI (LC_isSpan d x2 x3 m5) fun v8 m7 => if v8 = 0 then (yI (-1 : Int32) m7) else (bI (LC_isWhat d x4 m7) fun v10 m9 => if ¬ v10 = 0 then (bL (LC_possible d a0 m9) fun v12 m11 => if ¬ (lg_cmp v12 (0 : Int64)) = 0 then (bI (LC_worth d a0 x1 x2 v12 x5 m11) fun v14 m13 => LC_bestMinute_65 (d + 1) a0 x1 x2 x3 x4 x5 v12 x2 v14 (0 : Int32) eU eU m13) else (yI (-1 : Int32) m11)) else (yI (-1 : Int32) m9))))) := by
  unfold LC_bestMinute
  refine (x_aload1 D138_0 rfl).trans ?_
  refine ((x_getR D138_1).trans (gd_t h_a0)).trans (bR_c fun r1 => ?_)
  refine (x_getR D138_4).trans (gd_c fun h2 => bR_c fun r3 => ?_)
  refine (x_iload1 D138_7 rfl).trans ?_
  refine (x_cg D138_8 M89 rfl rfl).trans (gd_c fun h4 => ?_)
  refine (x_cI D138_8 M89 (fun z => by cases z) (I89 _ _) rfl rfl (ok_i M89 (I89 _ _) rfl rfl h4)).trans (bI_c fun v6 m5 => ?_)
  refine (x_ifeq D138_11).trans (i_c ?_ ?_)
  · refine (x_iconst D138_30 (k := -1) (by decide)).trans ?_
    exact x_iret D138_31 M138.2.2.1
  · refine (x_iload1 D138_14 rfl).trans ?_
    refine (x_iload1 D138_15 rfl).trans ?_
    refine (x_cI D138_16 M139 (fun z => by cases z) (I139 _ _) rfl rfl (ok_s M139 (I139 _ _) rfl rfl)).trans (bI_c fun v8 m7 => ?_)
    refine (x_ifeq D138_19).trans (i_c ?_ ?_)
    · refine (x_iconst D138_30 (k := -1) (by decide)).trans ?_
      exact x_iret D138_31 M138.2.2.1
    · refine (x_iload2 D138_22 rfl).trans ?_
      refine (x_cI D138_24 M125 (fun z => by cases z) (I125 _) rfl rfl (ok_s M125 (I125 _) rfl rfl)).trans (bI_c fun v10 m9 => ?_)
      refine (x_ifne D138_27).trans (i_c ?_ ?_)
      · refine (x_aload1 D138_32 rfl).trans ?_
        refine (x_cL D138_33 M97  (I97 _) rfl rfl (ok_i M97 (I97 _) rfl rfl h_a0)).trans (bL_c fun v12 m11 => ?_)
        refine (x_lstore2 D138_36 (ls' := [.ref a0, .int x1, .int x2, .int x3, .int x4, .int x5, .long v12, eU, eU, eU, eU, eU, eU]) rfl rfl).trans ?_
        refine (x_lload2 D138_38 rfl).trans ?_
        refine (x_lconst0 D138_40).trans ?_
        refine (x_lcmp D138_41).trans ?_
        refine (x_ifne D138_42).trans (i_c ?_ ?_)
        · refine (x_iload1 D138_47 rfl).trans ?_
          refine (x_istore2 D138_48 (ls' := [.ref a0, .int x1, .int x2, .int x3, .int x4, .int x5, .long v12, eU, .int x2, eU, eU, eU, eU]) rfl rfl).trans ?_
          refine (x_aload1 D138_50 rfl).trans ?_
          refine (x_iload1 D138_51 rfl).trans ?_
          refine (x_iload1 D138_52 rfl).trans ?_
          refine (x_lload2 D138_53 rfl).trans ?_
          refine (x_iload2 D138_55 rfl).trans ?_
          refine (x_cI D138_57 M140 (fun z => by cases z) (I140 _ _ _ _ _) rfl rfl (ok_i M140 (I140 _ _ _ _ _) rfl rfl h_a0)).trans (bI_c fun v14 m13 => ?_)
          refine (x_istore2 D138_60 (ls' := [.ref a0, .int x1, .int x2, .int x3, .int x4, .int x5, .long v12, eU, .int x2, .int v14, eU, eU, eU]) rfl rfl).trans ?_
          refine (x_iconst D138_62 (k := 0) (by decide)).trans ?_
          refine (x_istore2 D138_63 (ls' := [.ref a0, .int x1, .int x2, .int x3, .int x4, .int x5, .long v12, eU, .int x2, .int v14, .int (0 : Int32), eU, eU]) rfl rfl).trans ?_
          rfl
        · refine (x_iconst D138_45 (k := -1) (by decide)).trans ?_
          exact x_iret D138_46 M138.2.2.1
      · refine (x_iconst D138_30 (k := -1) (by decide)).trans ?_
        exact x_iret D138_31 M138.2.2.1
theorem LC_bestMinute_65_e (d : Nat) (a0 : Nat) (x1 : Int32) (x2 : Int32) (x3 : Int32) (x4 : Int32) (x5 : Int32) (y6 : Int64) (x8 : Int32) (x9 : Int32) (x10 : Int32) (w11 : Value) (w12 : Value) (m : eM) (h_a0 : kd a0 = 9) : LC_bestMinute_65 (d + 1) a0 x1 x2 x3 x4 x5 y6 x8 x9 x10 w11 w12 m = bR (gR m a0 2) fun r1 => gd r1 6 (bR (gR m r1 1) fun r3 => gd r3 7 (bI (Tk_size d r3 m) fun v6 m5 => if v6 ≤ x10 then (if ¬ x4 = 0 then (yI (iAbs x9) m5) else (yI x8 m5)) else (bR (gR m5 a0 2) fun r7 => gd r7 6 (bR (gR m5 r7 1) fun r9 => gd r9 7 (bI (Tk_minute d r9 x10 m5) fun v12 m11 => bR (gR m11 a0 2) fun r13 => gd r13 6 (bR (gR m11 r13 0) fun r15 => gd r15 4 (bI (Pa_late d r15 x1 m11) fun v18 m17 => if (v12 + v18) ≤ x2 then (if x9 ≤ x9 then (LC_bestMinute_65 (d + 1) a0 x1 x2 x3 x4 x5 y6 x8 x9 (x10 + (1 : Int32)) (.int (v12 + v18)) (.int x9) m17) else (LC_bestMinute_65 (d + 1) a0 x1 x2 x3 x4 x5 y6 (v12 + v18) x9 (x10 + (1 : Int32)) (.int (v12 + v18)) (.int x9) m17)) else (if x3 < (v12 + v18) then (if x9 ≤ x9 then (LC_bestMinute_65 (d + 1) a0 x1 x2 x3 x4 x5 y6 x8 x9 (x10 + (1 : Int32)) (.int (v12 + v18)) (.int x9) m17) else (LC_bestMinute_65 (d + 1) a0 x1 x2 x3 x4 x5 y6 (v12 + v18) x9 (x10 + (1 : Int32)) (.int (v12 + v18)) (.int x9) m17)) else (bI (LC_worth d a0 x1 (v12 + v18) y6 x5 m17) fun v20 m19 => if v20 ≤ x9 then (LC_bestMinute_65 (d + 1) a0 x1 x2 x3 x4 x5 y6 x8 x9 (x10 + (1 : Int32)) (.int (v12 + v18)) (.int v20) m19) else (LC_bestMinute_65 (d + 1) a0 x1 x2 x3 x4 x5 y6 (v12 + v18) v20 (x10 + (1 : Int32)) (.int (v12 + v18)) (.int v20) m19)))))))))) := by
  unfold LC_bestMinute_65
  refine (x_iload2 D138_65 rfl).trans ?_
  refine (x_aload1 D138_67 rfl).trans ?_
  refine ((x_getR D138_68).trans (gd_t h_a0)).trans (bR_c fun r1 => ?_)
  refine (x_getR D138_71).trans (gd_c fun h2 => bR_c fun r3 => ?_)
  refine (x_cg D138_74 M70 rfl rfl).trans (gd_c fun h4 => ?_)
  refine (x_cI D138_74 M70 (fun z => by cases z) (I70 _) rfl rfl (ok_i M70 (I70 _) rfl rfl h4)).trans (bI_c fun v6 m5 => ?_)
  refine (x_cge D138_77).trans (i_c ?_ ?_)
  · refine (x_iload2 D138_157 rfl).trans ?_
    refine (x_ifne D138_159).trans (i_c ?_ ?_)
    · refine (x_iload2 D138_167 rfl).trans ?_
      refine (x_abs D138_169 rfl).trans ?_
      exact x_iret D138_172 M138.2.2.1
    · refine (x_iload2 D138_162 rfl).trans ?_
      refine (x_goto D138_164).trans ?_
      exact x_iret D138_172 M138.2.2.1
  · refine (x_aload1 D138_80 rfl).trans ?_
    refine ((x_getR D138_81).trans (gd_t h_a0)).trans (bR_c fun r7 => ?_)
    refine (x_getR D138_84).trans (gd_c fun h8 => bR_c fun r9 => ?_)
    refine (x_iload2 D138_87 rfl).trans ?_
    refine (x_cg D138_89 M72 rfl rfl).trans (gd_c fun h10 => ?_)
    refine (x_cI D138_89 M72 (fun z => by cases z) (I72 _ _) rfl rfl (ok_i M72 (I72 _ _) rfl rfl h10)).trans (bI_c fun v12 m11 => ?_)
    refine (x_aload1 D138_92 rfl).trans ?_
    refine ((x_getR D138_93).trans (gd_t h_a0)).trans (bR_c fun r13 => ?_)
    refine (x_getR D138_96).trans (gd_c fun h14 => bR_c fun r15 => ?_)
    refine (x_iload1 D138_99 rfl).trans ?_
    refine (x_cg D138_100 M103 rfl rfl).trans (gd_c fun h16 => ?_)
    refine (x_cI D138_100 M103 (fun z => by cases z) (I103 _ _) rfl rfl (ok_i M103 (I103 _ _) rfl rfl h16)).trans (bI_c fun v18 m17 => ?_)
    refine (x_iadd D138_103).trans ?_
    refine (x_istore2 D138_104 (ls' := [.ref a0, .int x1, .int x2, .int x3, .int x4, .int x5, .long y6, eU, .int x8, .int x9, .int x10, .int (v12 + v18), w12]) rfl rfl).trans ?_
    refine (x_iload2 D138_106 rfl).trans ?_
    refine (x_iload1 D138_108 rfl).trans ?_
    refine (x_cle D138_109).trans (i_c ?_ ?_)
    · refine (x_iload2 D138_132 rfl).trans ?_
      refine (x_istore2 D138_134 (ls' := [.ref a0, .int x1, .int x2, .int x3, .int x4, .int x5, .long y6, eU, .int x8, .int x9, .int x10, .int (v12 + v18), .int x9]) rfl rfl).trans ?_
      refine (x_iload2 D138_136 rfl).trans ?_
      refine (x_iload2 D138_138 rfl).trans ?_
      refine (x_cle D138_140).trans (i_c ?_ ?_)
      · refine (x_iinc D138_151 rfl (k := 1) (by decide) (ls' := [.ref a0, .int x1, .int x2, .int x3, .int x4, .int x5, .long y6, eU, .int x8, .int x9, .int (x10 + (1 : Int32)), .int (v12 + v18), .int x9]) rfl).trans ?_
        refine (x_goto D138_154).trans ?_
        rfl
      · refine (x_iload2 D138_143 rfl).trans ?_
        refine (x_istore2 D138_145 (ls' := [.ref a0, .int x1, .int x2, .int x3, .int x4, .int x5, .long y6, eU, .int x8, .int x9, .int x10, .int (v12 + v18), .int x9]) rfl rfl).trans ?_
        refine (x_iload2 D138_147 rfl).trans ?_
        refine (x_istore2 D138_149 (ls' := [.ref a0, .int x1, .int x2, .int x3, .int x4, .int x5, .long y6, eU, .int (v12 + v18), .int x9, .int x10, .int (v12 + v18), .int x9]) rfl rfl).trans ?_
        refine (x_iinc D138_151 rfl (k := 1) (by decide) (ls' := [.ref a0, .int x1, .int x2, .int x3, .int x4, .int x5, .long y6, eU, .int (v12 + v18), .int x9, .int (x10 + (1 : Int32)), .int (v12 + v18), .int x9]) rfl).trans ?_
        refine (x_goto D138_154).trans ?_
        rfl
    · refine (x_iload2 D138_112 rfl).trans ?_
      refine (x_iload1 D138_114 rfl).trans ?_
      refine (x_cgt D138_115).trans (i_c ?_ ?_)
      · refine (x_iload2 D138_132 rfl).trans ?_
        refine (x_istore2 D138_134 (ls' := [.ref a0, .int x1, .int x2, .int x3, .int x4, .int x5, .long y6, eU, .int x8, .int x9, .int x10, .int (v12 + v18), .int x9]) rfl rfl).trans ?_
        refine (x_iload2 D138_136 rfl).trans ?_
        refine (x_iload2 D138_138 rfl).trans ?_
        refine (x_cle D138_140).trans (i_c ?_ ?_)
        · refine (x_iinc D138_151 rfl (k := 1) (by decide) (ls' := [.ref a0, .int x1, .int x2, .int x3, .int x4, .int x5, .long y6, eU, .int x8, .int x9, .int (x10 + (1 : Int32)), .int (v12 + v18), .int x9]) rfl).trans ?_
          refine (x_goto D138_154).trans ?_
          rfl
        · refine (x_iload2 D138_143 rfl).trans ?_
          refine (x_istore2 D138_145 (ls' := [.ref a0, .int x1, .int x2, .int x3, .int x4, .int x5, .long y6, eU, .int x8, .int x9, .int x10, .int (v12 + v18), .int x9]) rfl rfl).trans ?_
          refine (x_iload2 D138_147 rfl).trans ?_
          refine (x_istore2 D138_149 (ls' := [.ref a0, .int x1, .int x2, .int x3, .int x4, .int x5, .long y6, eU, .int (v12 + v18), .int x9, .int x10, .int (v12 + v18), .int x9]) rfl rfl).trans ?_
          refine (x_iinc D138_151 rfl (k := 1) (by decide) (ls' := [.ref a0, .int x1, .int x2, .int x3, .int x4, .int x5, .long y6, eU, .int (v12 + v18), .int x9, .int (x10 + (1 : Int32)), .int (v12 + v18), .int x9]) rfl).trans ?_
          refine (x_goto D138_154).trans ?_
          rfl
      · refine (x_aload1 D138_118 rfl).trans ?_
        refine (x_iload1 D138_119 rfl).trans ?_
        refine (x_iload2 D138_120 rfl).trans ?_
        refine (x_lload2 D138_122 rfl).trans ?_
        refine (x_iload2 D138_124 rfl).trans ?_
        refine (x_cI D138_126 M140 (fun z => by cases z) (I140 _ _ _ _ _) rfl rfl (ok_i M140 (I140 _ _ _ _ _) rfl rfl h_a0)).trans (bI_c fun v20 m19 => ?_)
        refine (x_goto D138_129).trans ?_
        refine (x_istore2 D138_134 (ls' := [.ref a0, .int x1, .int x2, .int x3, .int x4, .int x5, .long y6, eU, .int x8, .int x9, .int x10, .int (v12 + v18), .int v20]) rfl rfl).trans ?_
        refine (x_iload2 D138_136 rfl).trans ?_
        refine (x_iload2 D138_138 rfl).trans ?_
        refine (x_cle D138_140).trans (i_c ?_ ?_)
        · refine (x_iinc D138_151 rfl (k := 1) (by decide) (ls' := [.ref a0, .int x1, .int x2, .int x3, .int x4, .int x5, .long y6, eU, .int x8, .int x9, .int (x10 + (1 : Int32)), .int (v12 + v18), .int v20]) rfl).trans ?_
          refine (x_goto D138_154).trans ?_
          rfl
        · refine (x_iload2 D138_143 rfl).trans ?_
          refine (x_istore2 D138_145 (ls' := [.ref a0, .int x1, .int x2, .int x3, .int x4, .int x5, .long y6, eU, .int x8, .int v20, .int x10, .int (v12 + v18), .int v20]) rfl rfl).trans ?_
          refine (x_iload2 D138_147 rfl).trans ?_
          refine (x_istore2 D138_149 (ls' := [.ref a0, .int x1, .int x2, .int x3, .int x4, .int x5, .long y6, eU, .int (v12 + v18), .int v20, .int x10, .int (v12 + v18), .int v20]) rfl rfl).trans ?_
          refine (x_iinc D138_151 rfl (k := 1) (by decide) (ls' := [.ref a0, .int x1, .int x2, .int x3, .int x4, .int x5, .long y6, eU, .int (v12 + v18), .int v20, .int (x10 + (1 : Int32)), .int (v12 + v18), .int v20]) rfl).trans ?_
          refine (x_goto D138_154).trans ?_
          rfl
theorem D139_0 : decode (mB 139) 0 = .ok (.iload_n 0, 1) := by decide +kernel
theorem D139_1 : CS 139 1 69 2 := ⟨.invokestatic 139, by decide +kernel, by decide +kernel, by decide +kernel, by decide⟩
theorem D139_4 : BR 139 4 (.ifCond .eq 19) (19) 23 := ⟨by decide +kernel, by decide, by decide⟩
theorem D139_23 : decode (mB 139) 23 = .ok (.iconst 0, 1) := by decide +kernel
theorem D139_24 : decode (mB 139) 24 = .ok (.ireturn, 1) := by decide +kernel
theorem D139_7 : decode (mB 139) 7 = .ok (.iload_n 1, 1) := by decide +kernel
theorem D139_8 : CS 139 8 69 2 := ⟨.invokestatic 139, by decide +kernel, by decide +kernel, by decide +kernel, by decide⟩
theorem D139_11 : BR 139 11 (.ifCond .eq 12) (12) 23 := ⟨by decide +kernel, by decide, by decide⟩
theorem D139_14 : decode (mB 139) 14 = .ok (.iload_n 0, 1) := by decide +kernel
theorem D139_15 : decode (mB 139) 15 = .ok (.iload_n 1, 1) := by decide +kernel
theorem D139_16 : BR 139 16 (.if_icmp .gt 7) (7) 23 := ⟨by decide +kernel, by decide, by decide⟩
theorem D139_19 : decode (mB 139) 19 = .ok (.iconst 1, 1) := by decide +kernel
theorem D139_20 : BR 139 20 (.goto 4) (4) 24 := ⟨by decide +kernel, by decide, by decide⟩
theorem LC_isSpan_e (d : Nat) (x0 : Int32) (x1 : Int32) (m : eM)  : LC_isSpan (d + 1) x0 x1 m = bI (LC_isMinute d x0 m) fun v2 m1 => if v2 = 0 then (yI (0 : Int32) m1) else (bI (LC_isMinute d x1 m1) fun v4 m3 => if v4 = 0 then (yI (0 : Int32) m3) else (if x1 < x0 then (yI (0 : Int32) m3) else (yI (1 : Int32) m3))) := by
  unfold LC_isSpan
  refine (x_iload1 D139_0 rfl).trans ?_
  refine (x_cI D139_1 M69 (fun z => by cases z) (I69 _) rfl rfl (ok_s M69 (I69 _) rfl rfl)).trans (bI_c fun v2 m1 => ?_)
  refine (x_ifeq D139_4).trans (i_c ?_ ?_)
  · refine (x_iconst D139_23 (k := 0) (by decide)).trans ?_
    exact (x_bret D139_24 M139.2.2.1).trans yB0
  · refine (x_iload1 D139_7 rfl).trans ?_
    refine (x_cI D139_8 M69 (fun z => by cases z) (I69 _) rfl rfl (ok_s M69 (I69 _) rfl rfl)).trans (bI_c fun v4 m3 => ?_)
    refine (x_ifeq D139_11).trans (i_c ?_ ?_)
    · refine (x_iconst D139_23 (k := 0) (by decide)).trans ?_
      exact (x_bret D139_24 M139.2.2.1).trans yB0
    · refine (x_iload1 D139_14 rfl).trans ?_
      refine (x_iload1 D139_15 rfl).trans ?_
      refine (x_cgt D139_16).trans (i_c ?_ ?_)
      · refine (x_iconst D139_23 (k := 0) (by decide)).trans ?_
        exact (x_bret D139_24 M139.2.2.1).trans yB0
      · refine (x_iconst D139_19 (k := 1) (by decide)).trans ?_
        refine (x_goto D139_20).trans ?_
        exact (x_bret D139_24 M139.2.2.1).trans yB1
theorem D140_0 : decode (mB 140) 0 = .ok (.aload_n 0, 1) := by decide +kernel
theorem D140_1 : GF 140 1 9 5 2 := ⟨41, true, by decide +kernel, by decide +kernel⟩
theorem D140_4 : decode (mB 140) 4 = .ok (.aload_n 0, 1) := by decide +kernel
theorem D140_5 : GF 140 5 9 2 2 := ⟨26, true, by decide +kernel, by decide +kernel⟩
theorem D140_8 : GF 140 8 6 1 2 := ⟨108, true, by decide +kernel, by decide +kernel⟩
theorem D140_11 : decode (mB 140) 11 = .ok (.aload_n 0, 1) := by decide +kernel
theorem D140_12 : GF 140 12 9 2 2 := ⟨26, true, by decide +kernel, by decide +kernel⟩
theorem D140_15 : GF 140 15 6 0 2 := ⟨124, false, by decide +kernel, by decide +kernel⟩
theorem D140_18 : decode (mB 140) 18 = .ok (.iload_n 1, 1) := by decide +kernel
theorem D140_19 : decode (mB 140) 19 = .ok (.iload_n 2, 1) := by decide +kernel
theorem D140_20 : decode (mB 140) 20 = .ok (.lload_n 3, 1) := by decide +kernel
theorem D140_21 : CS 140 21 102 0 := ⟨.invokevirtual 255, by decide +kernel, by decide +kernel, by decide +kernel, by decide⟩
theorem D140_24 : decode (mB 140) 24 = .ok (.iload 5, 2) := by decide +kernel
theorem D140_26 : BR 140 26 (.ifCond .eq 13) (13) 39 := ⟨by decide +kernel, by decide, by decide⟩
theorem D140_39 : decode (mB 140) 39 = .ok (.aload_n 0, 1) := by decide +kernel
theorem D140_40 : GF 140 40 9 5 2 := ⟨41, true, by decide +kernel, by decide +kernel⟩
theorem D140_43 : CS 140 43 142 0 := ⟨.invokevirtual 442, by decide +kernel, by decide +kernel, by decide +kernel, by decide⟩
theorem D140_46 : decode (mB 140) 46 = .ok (.ineg, 1) := by decide +kernel
theorem D140_47 : decode (mB 140) 47 = .ok (.ireturn, 1) := by decide +kernel
theorem D140_29 : decode (mB 140) 29 = .ok (.aload_n 0, 1) := by decide +kernel
theorem D140_30 : GF 140 30 9 5 2 := ⟨41, true, by decide +kernel, by decide +kernel⟩
theorem D140_33 : CS 140 33 141 0 := ⟨.invokevirtual 439, by decide +kernel, by decide +kernel, by decide +kernel, by decide⟩
theorem D140_36 : BR 140 36 (.goto 11) (11) 47 := ⟨by decide +kernel, by decide, by decide⟩
theorem LC_worth_e (d : Nat) (a0 : Nat) (x1 : Int32) (x2 : Int32) (y3 : Int64) (x5 : Int32) (m : eM) (h_a0 : kd a0 = 9) : LC_worth (d + 1) a0 x1 x2 y3 x5 m = bR (gR m a0 5) fun r1 => bR (gR m a0 2) fun r2 => gd r2 6 (bR (gR m r2 1) fun r4 => bR (gR m a0 2) fun r5 => gd r5 6 (bR (gR m r5 0) fun r7 => gd r1 0 (bV (Ai_take d r1 r4 r7 x1 x2 y3 m) fun m9 => if x5 = 0 then (bR (gR m9 a0 5) fun r10 => gd r10 0 (bI (Ai_largest d r10 m9) fun v13 m12 => yI (-v13) m12)) else (bR (gR m9 a0 5) fun r14 => gd r14 0 (bI (Ai_bearings d r14 m9) fun v17 m16 => yI v17 m16))))) := by
  unfold LC_worth
  refine (x_aload1 D140_0 rfl).trans ?_
  refine ((x_getR D140_1).trans (gd_t h_a0)).trans (bR_c fun r1 => ?_)
  refine (x_aload1 D140_4 rfl).trans ?_
  refine ((x_getR D140_5).trans (gd_t h_a0)).trans (bR_c fun r2 => ?_)
  refine (x_getR D140_8).trans (gd_c fun h3 => bR_c fun r4 => ?_)
  refine (x_aload1 D140_11 rfl).trans ?_
  refine ((x_getR D140_12).trans (gd_t h_a0)).trans (bR_c fun r5 => ?_)
  refine (x_getR D140_15).trans (gd_c fun h6 => bR_c fun r7 => ?_)
  refine (x_iload1 D140_18 rfl).trans ?_
  refine (x_iload1 D140_19 rfl).trans ?_
  refine (x_lload1 D140_20 rfl).trans ?_
  refine (x_cg D140_21 M102 rfl rfl).trans (gd_c fun h8 => ?_)
  refine (x_cV D140_21 M102  (I102 _ _ _ _ _ _) rfl rfl (ok_i M102 (I102 _ _ _ _ _ _) rfl rfl h8)).trans (bV_c fun m9 => ?_)
  refine (x_iload2 D140_24 rfl).trans ?_
  refine (x_ifeq D140_26).trans (i_c ?_ ?_)
  · refine (x_aload1 D140_39 rfl).trans ?_
    refine ((x_getR D140_40).trans (gd_t h_a0)).trans (bR_c fun r10 => ?_)
    refine (x_cg D140_43 M142 rfl rfl).trans (gd_c fun h11 => ?_)
    refine (x_cI D140_43 M142 (fun z => by cases z) (I142 _) rfl rfl (ok_i M142 (I142 _) rfl rfl h11)).trans (bI_c fun v13 m12 => ?_)
    refine (x_ineg D140_46).trans ?_
    exact x_iret D140_47 M140.2.2.1
  · refine (x_aload1 D140_29 rfl).trans ?_
    refine ((x_getR D140_30).trans (gd_t h_a0)).trans (bR_c fun r14 => ?_)
    refine (x_cg D140_33 M141 rfl rfl).trans (gd_c fun h15 => ?_)
    refine (x_cI D140_33 M141 (fun z => by cases z) (I141 _) rfl rfl (ok_i M141 (I141 _) rfl rfl h15)).trans (bI_c fun v17 m16 => ?_)
    refine (x_goto D140_36).trans ?_
    exact x_iret D140_47 M140.2.2.1
theorem D143_0 : decode (mB 143) 0 = .ok (.aload_n 0, 1) := by decide +kernel
theorem D143_1 : decode (mB 143) 1 = .ok (.iload_n 1, 1) := by decide +kernel
theorem D143_2 : decode (mB 143) 2 = .ok (.iload_n 2, 1) := by decide +kernel
theorem D143_3 : decode (mB 143) 3 = .ok (.iload_n 3, 1) := by decide +kernel
theorem D143_4 : decode (mB 143) 4 = .ok (.iload 4, 2) := by decide +kernel
theorem D143_6 : decode (mB 143) 6 = .ok (.iconst 1, 1) := by decide +kernel
theorem D143_7 : CS 143 7 138 0 := ⟨.invokevirtual 229, by decide +kernel, by decide +kernel, by decide +kernel, by decide⟩
theorem D143_10 : decode (mB 143) 10 = .ok (.ireturn, 1) := by decide +kernel
theorem LC_fog_e (d : Nat) (a0 : Nat) (x1 : Int32) (x2 : Int32) (x3 : Int32) (x4 : Int32) (m : eM) (h_a0 : kd a0 = 9) : LC_fog (d + 1) a0 x1 x2 x3 x4 m = bI (LC_bestMinute d a0 x1 x2 x3 x4 (1 : Int32) m) fun v2 m1 => yI v2 m1 := by
  unfold LC_fog
  refine (x_aload1 D143_0 rfl).trans ?_
  refine (x_iload1 D143_1 rfl).trans ?_
  refine (x_iload1 D143_2 rfl).trans ?_
  refine (x_iload1 D143_3 rfl).trans ?_
  refine (x_iload2 D143_4 rfl).trans ?_
  refine (x_iconst D143_6 (k := 1) (by decide)).trans ?_
  refine (x_cI D143_7 M138 (fun z => by cases z) (I138 _ _ _ _ _ _) rfl rfl (ok_i M138 (I138 _ _ _ _ _ _) rfl rfl h_a0)).trans (bI_c fun v2 m1 => ?_)
  exact x_iret D143_10 M143.2.2.1
theorem D144_0 : decode (mB 144) 0 = .ok (.aload_n 0, 1) := by decide +kernel
theorem D144_1 : GF 144 1 9 2 2 := ⟨26, true, by decide +kernel, by decide +kernel⟩
theorem D144_4 : GF 144 4 6 0 2 := ⟨124, false, by decide +kernel, by decide +kernel⟩
theorem D144_7 : decode (mB 144) 7 = .ok (.astore 6, 2) := by decide +kernel
theorem D144_9 : decode (mB 144) 9 = .ok (.aload_n 0, 1) := by decide +kernel
theorem D144_10 : decode (mB 144) 10 = .ok (.iload_n 1, 1) := by decide +kernel
theorem D144_11 : decode (mB 144) 11 = .ok (.iload 4, 2) := by decide +kernel
theorem D144_13 : CS 144 13 67 0 := ⟨.invokevirtual 104, by decide +kernel, by decide +kernel, by decide +kernel, by decide⟩
theorem D144_16 : BR 144 16 (.ifCond .eq 53) (53) 69 := ⟨by decide +kernel, by decide, by decide⟩
theorem D144_69 : decode (mB 144) 69 = .ok (.iconst (-1), 1) := by decide +kernel
theorem D144_70 : decode (mB 144) 70 = .ok (.ireturn, 1) := by decide +kernel
theorem D144_19 : decode (mB 144) 19 = .ok (.aload 6, 2) := by decide +kernel
theorem D144_21 : decode (mB 144) 21 = .ok (.iload_n 2, 1) := by decide +kernel
theorem D144_22 : CS 144 22 120 0 := ⟨.invokevirtual 191, by decide +kernel, by decide +kernel, by decide +kernel, by decide⟩
theorem D144_25 : BR 144 25 (.ifCond .eq 44) (44) 69 := ⟨by decide +kernel, by decide, by decide⟩
theorem D144_28 : decode (mB 144) 28 = .ok (.aload 6, 2) := by decide +kernel
theorem D144_30 : decode (mB 144) 30 = .ok (.iload 5, 2) := by decide +kernel
theorem D144_32 : CS 144 32 89 0 := ⟨.invokevirtual 136, by decide +kernel, by decide +kernel, by decide +kernel, by decide⟩
theorem D144_35 : BR 144 35 (.ifCond .eq 34) (34) 69 := ⟨by decide +kernel, by decide, by decide⟩
theorem D144_38 : decode (mB 144) 38 = .ok (.iload 4, 2) := by decide +kernel
theorem D144_40 : decode (mB 144) 40 = .ok (.aload_n 0, 1) := by decide +kernel
theorem D144_41 : GF 144 41 9 2 2 := ⟨26, true, by decide +kernel, by decide +kernel⟩
theorem D144_44 : GF 144 44 6 1 2 := ⟨108, true, by decide +kernel, by decide +kernel⟩
theorem D144_47 : CS 144 47 71 0 := ⟨.invokevirtual 114, by decide +kernel, by decide +kernel, by decide +kernel, by decide⟩
theorem D144_50 : BR 144 50 (.if_icmp .lt 19) (19) 69 := ⟨by decide +kernel, by decide, by decide⟩
theorem D144_53 : decode (mB 144) 53 = .ok (.iload 4, 2) := by decide +kernel
theorem D144_55 : decode (mB 144) 55 = .ok (.aload 6, 2) := by decide +kernel
theorem D144_57 : decode (mB 144) 57 = .ok (.iload 5, 2) := by decide +kernel
theorem D144_59 : CS 144 59 103 0 := ⟨.invokevirtual 233, by decide +kernel, by decide +kernel, by decide +kernel, by decide⟩
theorem D144_62 : decode (mB 144) 62 = .ok (.iadd, 1) := by decide +kernel
theorem D144_63 : decode (mB 144) 63 = .ok (.sipush 1439, 3) := by decide +kernel
theorem D144_66 : BR 144 66 (.if_icmp .le 5) (5) 71 := ⟨by decide +kernel, by decide, by decide⟩
theorem D144_71 : decode (mB 144) 71 = .ok (.aload_n 0, 1) := by decide +kernel
theorem D144_72 : CS 144 72 97 0 := ⟨.invokevirtual 167, by decide +kernel, by decide +kernel, by decide +kernel, by decide⟩
theorem D144_75 : decode (mB 144) 75 = .ok (.aload 6, 2) := by decide +kernel
theorem D144_77 : decode (mB 144) 77 = .ok (.aload 6, 2) := by decide +kernel
theorem D144_79 : decode (mB 144) 79 = .ok (.iload_n 1, 1) := by decide +kernel
theorem D144_80 : CS 144 80 82 0 := ⟨.invokevirtual 237, by decide +kernel, by decide +kernel, by decide +kernel, by decide⟩
theorem D144_83 : decode (mB 144) 83 = .ok (.aload_n 0, 1) := by decide +kernel
theorem D144_84 : GF 144 84 9 2 2 := ⟨26, true, by decide +kernel, by decide +kernel⟩
theorem D144_87 : GF 144 87 6 5 0 := ⟨132, false, by decide +kernel, by decide +kernel⟩
theorem D144_90 : CS 144 90 145 0 := ⟨.invokevirtual 240, by decide +kernel, by decide +kernel, by decide +kernel, by decide⟩
theorem D144_93 : decode (mB 144) 93 = .ok (.land, 1) := by decide +kernel
theorem D144_94 : decode (mB 144) 94 = .ok (.lstore 7, 2) := by decide +kernel
theorem D144_96 : decode (mB 144) 96 = .ok (.lload 7, 2) := by decide +kernel
theorem D144_98 : decode (mB 144) 98 = .ok (.lconst 0, 1) := by decide +kernel
theorem D144_99 : decode (mB 144) 99 = .ok (.lcmp, 1) := by decide +kernel
theorem D144_100 : BR 144 100 (.ifCond .ne 5) (5) 105 := ⟨by decide +kernel, by decide, by decide⟩
theorem D144_105 : decode (mB 144) 105 = .ok (.aload_n 0, 1) := by decide +kernel
theorem D144_106 : GF 144 106 9 6 2 := ⟨48, true, by decide +kernel, by decide +kernel⟩
theorem D144_109 : decode (mB 144) 109 = .ok (.aload_n 0, 1) := by decide +kernel
theorem D144_110 : GF 144 110 9 2 2 := ⟨26, true, by decide +kernel, by decide +kernel⟩
theorem D144_113 : GF 144 113 6 1 2 := ⟨108, true, by decide +kernel, by decide +kernel⟩
theorem D144_116 : CS 144 116 147 0 := ⟨.invokevirtual 243, by decide +kernel, by decide +kernel, by decide +kernel, by decide⟩
theorem D144_119 : decode (mB 144) 119 = .ok (.aload_n 0, 1) := by decide +kernel
theorem D144_120 : decode (mB 144) 120 = .ok (.aload_n 0, 1) := by decide +kernel
theorem D144_121 : GF 144 121 9 6 2 := ⟨48, true, by decide +kernel, by decide +kernel⟩
theorem D144_124 : decode (mB 144) 124 = .ok (.iload_n 1, 1) := by decide +kernel
theorem D144_125 : decode (mB 144) 125 = .ok (.iload 4, 2) := by decide +kernel
theorem D144_127 : decode (mB 144) 127 = .ok (.aload 6, 2) := by decide +kernel
theorem D144_129 : decode (mB 144) 129 = .ok (.iload_n 2, 1) := by decide +kernel
theorem D144_130 : decode (mB 144) 130 = .ok (.iload_n 3, 1) := by decide +kernel
theorem D144_131 : CS 144 131 146 0 := ⟨.invokevirtual 247, by decide +kernel, by decide +kernel, by decide +kernel, by decide⟩
theorem D144_134 : CS 144 134 79 0 := ⟨.invokevirtual 251, by decide +kernel, by decide +kernel, by decide +kernel, by decide⟩
theorem D144_137 : decode (mB 144) 137 = .ok (.aload_n 0, 1) := by decide +kernel
theorem D144_138 : GF 144 138 9 5 2 := ⟨41, true, by decide +kernel, by decide +kernel⟩
theorem D144_141 : decode (mB 144) 141 = .ok (.aload_n 0, 1) := by decide +kernel
theorem D144_142 : GF 144 142 9 6 2 := ⟨48, true, by decide +kernel, by decide +kernel⟩
theorem D144_145 : decode (mB 144) 145 = .ok (.aload 6, 2) := by decide +kernel
theorem D144_147 : decode (mB 144) 147 = .ok (.iload 5, 2) := by decide +kernel
theorem D144_149 : decode (mB 144) 149 = .ok (.iload 4, 2) := by decide +kernel
theorem D144_151 : decode (mB 144) 151 = .ok (.aload 6, 2) := by decide +kernel
theorem D144_153 : decode (mB 144) 153 = .ok (.iload 5, 2) := by decide +kernel
theorem D144_155 : CS 144 155 103 0 := ⟨.invokevirtual 233, by decide +kernel, by decide +kernel, by decide +kernel, by decide⟩
theorem D144_158 : decode (mB 144) 158 = .ok (.iadd, 1) := by decide +kernel
theorem D144_159 : decode (mB 144) 159 = .ok (.lload 7, 2) := by decide +kernel
theorem D144_161 : CS 144 161 102 0 := ⟨.invokevirtual 255, by decide +kernel, by decide +kernel, by decide +kernel, by decide⟩
theorem D144_164 : decode (mB 144) 164 = .ok (.aload_n 0, 1) := by decide +kernel
theorem D144_165 : GF 144 165 9 5 2 := ⟨41, true, by decide +kernel, by decide +kernel⟩
theorem D144_168 : decode (mB 144) 168 = .ok (.iload_n 2, 1) := by decide +kernel
theorem D144_169 : CS 144 169 84 2 := ⟨.invokestatic 194, by decide +kernel, by decide +kernel, by decide +kernel, by decide⟩
theorem D144_172 : CS 144 172 149 0 := ⟨.invokevirtual 259, by decide +kernel, by decide +kernel, by decide +kernel, by decide⟩
theorem D144_175 : BR 144 175 (.ifCond .eq 7) (7) 182 := ⟨by decide +kernel, by decide, by decide⟩
theorem D144_182 : decode (mB 144) 182 = .ok (.iconst 0, 1) := by decide +kernel
theorem D144_183 : decode (mB 144) 183 = .ok (.ireturn, 1) := by decide +kernel
theorem D144_178 : decode (mB 144) 178 = .ok (.iconst 1, 1) := by decide +kernel
theorem D144_179 : BR 144 179 (.goto 4) (4) 183 := ⟨by decide +kernel, by decide, by decide⟩
theorem D144_103 : decode (mB 144) 103 = .ok (.iconst (-1), 1) := by decide +kernel
theorem D144_104 : decode (mB 144) 104 = .ok (.ireturn, 1) := by decide +kernel
theorem LC_learns_e (d : Nat) (a0 : Nat) (x1 : Int32) (x2 : Int32) (x3 : Int32) (x4 : Int32) (x5 : Int32) (m : eM) (h_a0 : kd a0 = 9) : LC_learns (d + 1) a0 x1 x2 x3 x4 x5 m = bR (gR m a0 2) fun r1 => gd r1 6 (bR (gR m r1 0) fun r3 => bI (LC_isSpeaker d a0 x1 x4 m) fun v5 m4 => if v5 = 0 then (yI (-1 : Int32) m4) else (gd r3 4 (bI (Pa_isFact d r3 x2 m4) fun v8 m7 => if v8 = 0 then (yI (-1 : Int32) m7) else (bI (Pa_isThere d r3 x5 m7) fun v10 m9 => if v10 = 0 then (yI (-1 : Int32) m9) else (bR (gR m9 a0 2) fun r11 => gd r11 6 (bR (gR m9 r11 1) fun r13 => gd r13 7 (bI (Tk_lastMinute d r13 m9) fun v16 m15 => if x4 < v16 then (yI (-1 : Int32) m15) else (bI (Pa_late d r3 x5 m15) fun v18 m17 => if (x4 + v18) ≤ (1439 : Int32) then (bL (LC_possible d a0 m17) fun v20 m19 => bI (Pa_known d r3 x1 m19) fun v22 m21 => bR (gR m21 a0 2) fun r23 => gd r23 6 (bL (Pa_alike d r3 v22 (gI m21 r23 5) m21) fun v26 m25 => if ¬ (lg_cmp (v20 &&& v26) (0 : Int64)) = 0 then (bR (gR m25 a0 6) fun r27 => bR (gR m25 a0 2) fun r28 => gd r28 6 (bR (gR m25 r28 1) fun r30 => gd r27 7 (bV (Tk_copy d r27 r30 m25) fun m32 => bR (gR m32 a0 6) fun r33 => bL (Pa_factIs d r3 x2 x3 m32) fun v35 m34 => bV (LC_tell d a0 r33 x1 x4 v35 m34) fun m36 => bR (gR m36 a0 5) fun r37 => bR (gR m36 a0 6) fun r38 => bI (Pa_late d r3 x5 m36) fun v40 m39 => gd r37 0 (bV (Ai_take d r37 r38 r3 x5 (x4 + v40) (v20 &&& v26) m39) fun m42 => bR (gR m42 a0 5) fun r43 => bL (LC_factSo d x2 m42) fun v45 m44 => gd r43 0 (bI (Ai_tells d r43 v45 m44) fun v48 m47 => if v48 = 0 then (yI (0 : Int32) m47) else (yI (1 : Int32) m47)))))) else (yI (-1 : Int32) m25))) else (yI (-1 : Int32) m17))))))))) := by
  unfold LC_learns
  refine (x_aload1 D144_0 rfl).trans ?_
  refine ((x_getR D144_1).trans (gd_t h_a0)).trans (bR_c fun r1 => ?_)
  refine (x_getR D144_4).trans (gd_c fun h2 => bR_c fun r3 => ?_)
  refine (x_astore2 D144_7 (ls' := [.ref a0, .int x1, .int x2, .int x3, .int x4, .int x5, .ref r3, eU, eU]) rfl rfl).trans ?_
  refine (x_aload1 D144_9 rfl).trans ?_
  refine (x_iload1 D144_10 rfl).trans ?_
  refine (x_iload2 D144_11 rfl).trans ?_
  refine (x_cI D144_13 M67 (fun z => by cases z) (I67 _ _ _) rfl rfl (ok_i M67 (I67 _ _ _) rfl rfl h_a0)).trans (bI_c fun v5 m4 => ?_)
  refine (x_ifeq D144_16).trans (i_c ?_ ?_)
  · refine (x_iconst D144_69 (k := -1) (by decide)).trans ?_
    exact x_iret D144_70 M144.2.2.1
  · refine (x_aload2 D144_19 rfl).trans ?_
    refine (x_iload1 D144_21 rfl).trans ?_
    refine (x_cg D144_22 M120 rfl rfl).trans (gd_c fun h6 => ?_)
    refine (x_cI D144_22 M120 (fun z => by cases z) (I120 _ _) rfl rfl (ok_i M120 (I120 _ _) rfl rfl h6)).trans (bI_c fun v8 m7 => ?_)
    refine (x_ifeq D144_25).trans (i_c ?_ ?_)
    · refine (x_iconst D144_69 (k := -1) (by decide)).trans ?_
      exact x_iret D144_70 M144.2.2.1
    · refine (x_aload2 D144_28 rfl).trans ?_
      refine (x_iload2 D144_30 rfl).trans ?_
      refine (x_cI D144_32 M89 (fun z => by cases z) (I89 _ _) rfl rfl (ok_i M89 (I89 _ _) rfl rfl h6)).trans (bI_c fun v10 m9 => ?_)
      refine (x_ifeq D144_35).trans (i_c ?_ ?_)
      · refine (x_iconst D144_69 (k := -1) (by decide)).trans ?_
        exact x_iret D144_70 M144.2.2.1
      · refine (x_iload2 D144_38 rfl).trans ?_
        refine (x_aload1 D144_40 rfl).trans ?_
        refine ((x_getR D144_41).trans (gd_t h_a0)).trans (bR_c fun r11 => ?_)
        refine (x_getR D144_44).trans (gd_c fun h12 => bR_c fun r13 => ?_)
        refine (x_cg D144_47 M71 rfl rfl).trans (gd_c fun h14 => ?_)
        refine (x_cI D144_47 M71 (fun z => by cases z) (I71 _) rfl rfl (ok_i M71 (I71 _) rfl rfl h14)).trans (bI_c fun v16 m15 => ?_)
        refine (x_clt D144_50).trans (i_c ?_ ?_)
        · refine (x_iconst D144_69 (k := -1) (by decide)).trans ?_
          exact x_iret D144_70 M144.2.2.1
        · refine (x_iload2 D144_53 rfl).trans ?_
          refine (x_aload2 D144_55 rfl).trans ?_
          refine (x_iload2 D144_57 rfl).trans ?_
          refine (x_cI D144_59 M103 (fun z => by cases z) (I103 _ _) rfl rfl (ok_i M103 (I103 _ _) rfl rfl h6)).trans (bI_c fun v18 m17 => ?_)
          refine (x_iadd D144_62).trans ?_
          refine (x_sipush D144_63 (k := 1439) (by decide)).trans ?_
          refine (x_cle D144_66).trans (i_c ?_ ?_)
          · refine (x_aload1 D144_71 rfl).trans ?_
            refine (x_cL D144_72 M97  (I97 _) rfl rfl (ok_i M97 (I97 _) rfl rfl h_a0)).trans (bL_c fun v20 m19 => ?_)
            refine (x_aload2 D144_75 rfl).trans ?_
            refine (x_aload2 D144_77 rfl).trans ?_
            refine (x_iload1 D144_79 rfl).trans ?_
            refine (x_cI D144_80 M82 (fun z => by cases z) (I82 _ _) rfl rfl (ok_i M82 (I82 _ _) rfl rfl h6)).trans (bI_c fun v22 m21 => ?_)
            refine (x_aload1 D144_83 rfl).trans ?_
            refine ((x_getR D144_84).trans (gd_t h_a0)).trans (bR_c fun r23 => ?_)
            refine (x_getI D144_87).trans (gd_c fun h24 => ?_)
            refine (x_cL D144_90 M145  (I145 _ _ _) rfl rfl (ok_i M145 (I145 _ _ _) rfl rfl h6)).trans (bL_c fun v26 m25 => ?_)
            refine (x_land D144_93).trans ?_
            refine (x_lstore2 D144_94 (ls' := [.ref a0, .int x1, .int x2, .int x3, .int x4, .int x5, .ref r3, .long (v20 &&& v26), eU]) rfl rfl).trans ?_
            refine (x_lload2 D144_96 rfl).trans ?_
            refine (x_lconst0 D144_98).trans ?_
            refine (x_lcmp D144_99).trans ?_
            refine (x_ifne D144_100).trans (i_c ?_ ?_)
            · refine (x_aload1 D144_105 rfl).trans ?_
              refine ((x_getR D144_106).trans (gd_t h_a0)).trans (bR_c fun r27 => ?_)
              refine (x_aload1 D144_109 rfl).trans ?_
              refine ((x_getR D144_110).trans (gd_t h_a0)).trans (bR_c fun r28 => ?_)
              refine (x_getR D144_113).trans (gd_c fun h29 => bR_c fun r30 => ?_)
              refine (x_cg D144_116 M147 rfl rfl).trans (gd_c fun h31 => ?_)
              refine (x_cV D144_116 M147  (I147 _ _) rfl rfl (ok_i M147 (I147 _ _) rfl rfl h31)).trans (bV_c fun m32 => ?_)
              refine (x_aload1 D144_119 rfl).trans ?_
              refine (x_aload1 D144_120 rfl).trans ?_
              refine ((x_getR D144_121).trans (gd_t h_a0)).trans (bR_c fun r33 => ?_)
              refine (x_iload1 D144_124 rfl).trans ?_
              refine (x_iload2 D144_125 rfl).trans ?_
              refine (x_aload2 D144_127 rfl).trans ?_
              refine (x_iload1 D144_129 rfl).trans ?_
              refine (x_iload1 D144_130 rfl).trans ?_
              refine (x_cL D144_131 M146  (I146 _ _ _) rfl rfl (ok_i M146 (I146 _ _ _) rfl rfl h6)).trans (bL_c fun v35 m34 => ?_)
              refine (x_cV D144_134 M79  (I79 _ _ _ _ _) rfl rfl (ok_i M79 (I79 _ _ _ _ _) rfl rfl h_a0)).trans (bV_c fun m36 => ?_)
              refine (x_aload1 D144_137 rfl).trans ?_
              refine ((x_getR D144_138).trans (gd_t h_a0)).trans (bR_c fun r37 => ?_)
              refine (x_aload1 D144_141 rfl).trans ?_
              refine ((x_getR D144_142).trans (gd_t h_a0)).trans (bR_c fun r38 => ?_)
              refine (x_aload2 D144_145 rfl).trans ?_
              refine (x_iload2 D144_147 rfl).trans ?_
              refine (x_iload2 D144_149 rfl).trans ?_
              refine (x_aload2 D144_151 rfl).trans ?_
              refine (x_iload2 D144_153 rfl).trans ?_
              refine (x_cI D144_155 M103 (fun z => by cases z) (I103 _ _) rfl rfl (ok_i M103 (I103 _ _) rfl rfl h6)).trans (bI_c fun v40 m39 => ?_)
              refine (x_iadd D144_158).trans ?_
              refine (x_lload2 D144_159 rfl).trans ?_
              refine (x_cg D144_161 M102 rfl rfl).trans (gd_c fun h41 => ?_)
              refine (x_cV D144_161 M102  (I102 _ _ _ _ _ _) rfl rfl (ok_i M102 (I102 _ _ _ _ _ _) rfl rfl h41)).trans (bV_c fun m42 => ?_)
              refine (x_aload1 D144_164 rfl).trans ?_
              refine ((x_getR D144_165).trans (gd_t h_a0)).trans (bR_c fun r43 => ?_)
              refine (x_iload1 D144_168 rfl).trans ?_
              refine (x_cL D144_169 M84  (I84 _) rfl rfl (ok_s M84 (I84 _) rfl rfl)).trans (bL_c fun v45 m44 => ?_)
              refine (x_cg D144_172 M149 rfl rfl).trans (gd_c fun h46 => ?_)
              refine (x_cI D144_172 M149 (fun z => by cases z) (I149 _ _) rfl rfl (ok_i M149 (I149 _ _) rfl rfl h46)).trans (bI_c fun v48 m47 => ?_)
              refine (x_ifeq D144_175).trans (i_c ?_ ?_)
              · refine (x_iconst D144_182 (k := 0) (by decide)).trans ?_
                exact x_iret D144_183 M144.2.2.1
              · refine (x_iconst D144_178 (k := 1) (by decide)).trans ?_
                refine (x_goto D144_179).trans ?_
                exact x_iret D144_183 M144.2.2.1
            · refine (x_iconst D144_103 (k := -1) (by decide)).trans ?_
              exact x_iret D144_104 M144.2.2.1
          · refine (x_iconst D144_69 (k := -1) (by decide)).trans ?_
            exact x_iret D144_70 M144.2.2.1
theorem D150_0 : decode (mB 150) 0 = .ok (.aload_n 0, 1) := by decide +kernel
theorem D150_1 : CS 150 1 97 0 := ⟨.invokevirtual 167, by decide +kernel, by decide +kernel, by decide +kernel, by decide⟩
theorem D150_4 : decode (mB 150) 4 = .ok (.lstore 4, 2) := by decide +kernel
theorem D150_6 : decode (mB 150) 6 = .ok (.aload_n 0, 1) := by decide +kernel
theorem D150_7 : GF 150 7 9 2 2 := ⟨26, true, by decide +kernel, by decide +kernel⟩
theorem D150_10 : GF 150 10 6 0 2 := ⟨124, false, by decide +kernel, by decide +kernel⟩
theorem D150_13 : decode (mB 150) 13 = .ok (.iload_n 1, 1) := by decide +kernel
theorem D150_14 : CS 150 14 89 0 := ⟨.invokevirtual 136, by decide +kernel, by decide +kernel, by decide +kernel, by decide⟩
theorem D150_17 : BR 150 17 (.ifCond .eq 33) (33) 50 := ⟨by decide +kernel, by decide, by decide⟩
theorem D150_50 : decode (mB 150) 50 = .ok (.iconst (-1), 1) := by decide +kernel
theorem D150_51 : decode (mB 150) 51 = .ok (.ireturn, 1) := by decide +kernel
theorem D150_20 : decode (mB 150) 20 = .ok (.aload_n 0, 1) := by decide +kernel
theorem D150_21 : GF 150 21 9 2 2 := ⟨26, true, by decide +kernel, by decide +kernel⟩
theorem D150_24 : GF 150 24 6 0 2 := ⟨124, false, by decide +kernel, by decide +kernel⟩
theorem D150_27 : decode (mB 150) 27 = .ok (.iload_n 2, 1) := by decide +kernel
theorem D150_28 : CS 150 28 120 0 := ⟨.invokevirtual 191, by decide +kernel, by decide +kernel, by decide +kernel, by decide⟩
theorem D150_31 : BR 150 31 (.ifCond .eq 19) (19) 50 := ⟨by decide +kernel, by decide, by decide⟩
theorem D150_34 : decode (mB 150) 34 = .ok (.iload_n 3, 1) := by decide +kernel
theorem D150_35 : BR 150 35 (.ifCond .lt 15) (15) 50 := ⟨by decide +kernel, by decide, by decide⟩
theorem D150_38 : decode (mB 150) 38 = .ok (.iload_n 3, 1) := by decide +kernel
theorem D150_39 : decode (mB 150) 39 = .ok (.iconst 3, 1) := by decide +kernel
theorem D150_40 : BR 150 40 (.if_icmp .gt 10) (10) 50 := ⟨by decide +kernel, by decide, by decide⟩
theorem D150_43 : decode (mB 150) 43 = .ok (.lload 4, 2) := by decide +kernel
theorem D150_45 : decode (mB 150) 45 = .ok (.lconst 0, 1) := by decide +kernel
theorem D150_46 : decode (mB 150) 46 = .ok (.lcmp, 1) := by decide +kernel
theorem D150_47 : BR 150 47 (.ifCond .ne 5) (5) 52 := ⟨by decide +kernel, by decide, by decide⟩
theorem D150_52 : decode (mB 150) 52 = .ok (.aload_n 0, 1) := by decide +kernel
theorem D150_53 : GF 150 53 9 9 2 := ⟨65, true, by decide +kernel, by decide +kernel⟩
theorem D150_56 : decode (mB 150) 56 = .ok (.aload_n 0, 1) := by decide +kernel
theorem D150_57 : GF 150 57 9 5 2 := ⟨41, true, by decide +kernel, by decide +kernel⟩
theorem D150_60 : decode (mB 150) 60 = .ok (.aload_n 0, 1) := by decide +kernel
theorem D150_61 : GF 150 61 9 2 2 := ⟨26, true, by decide +kernel, by decide +kernel⟩
theorem D150_64 : decode (mB 150) 64 = .ok (.iload_n 1, 1) := by decide +kernel
theorem D150_65 : decode (mB 150) 65 = .ok (.lload 4, 2) := by decide +kernel
theorem D150_67 : CS 150 67 151 0 := ⟨.invokevirtual 263, by decide +kernel, by decide +kernel, by decide +kernel, by decide⟩
theorem D150_70 : decode (mB 150) 70 = .ok (.aload_n 0, 1) := by decide +kernel
theorem D150_71 : GF 150 71 9 9 2 := ⟨65, true, by decide +kernel, by decide +kernel⟩
theorem D150_74 : decode (mB 150) 74 = .ok (.iload_n 2, 1) := by decide +kernel
theorem D150_75 : CS 150 75 84 2 := ⟨.invokestatic 194, by decide +kernel, by decide +kernel, by decide +kernel, by decide⟩
theorem D150_78 : CS 150 78 155 0 := ⟨.invokevirtual 267, by decide +kernel, by decide +kernel, by decide +kernel, by decide⟩
theorem D150_81 : decode (mB 150) 81 = .ok (.istore 6, 2) := by decide +kernel
theorem D150_83 : decode (mB 150) 83 = .ok (.iload_n 3, 1) := by decide +kernel
theorem D150_84 : BR 150 84 (.ifCond .eq 9) (9) 93 := ⟨by decide +kernel, by decide, by decide⟩
theorem D150_93 : decode (mB 150) 93 = .ok (.iload 6, 2) := by decide +kernel
theorem D150_95 : decode (mB 150) 95 = .ok (.ireturn, 1) := by decide +kernel
theorem D150_87 : decode (mB 150) 87 = .ok (.iload 6, 2) := by decide +kernel
theorem D150_89 : decode (mB 150) 89 = .ok (.iconst (-1), 1) := by decide +kernel
theorem D150_90 : BR 150 90 (.if_icmp .ne 6) (6) 96 := ⟨by decide +kernel, by decide, by decide⟩
theorem D150_96 : decode (mB 150) 96 = .ok (.iload_n 3, 1) := by decide +kernel
theorem D150_97 : decode (mB 150) 97 = .ok (.iload 6, 2) := by decide +kernel
theorem D150_99 : BR 150 99 (.if_icmp .gt 16) (16) 115 := ⟨by decide +kernel, by decide, by decide⟩
theorem D150_115 : decode (mB 150) 115 = .ok (.iconst (-1), 1) := by decide +kernel
theorem D150_116 : decode (mB 150) 116 = .ok (.ireturn, 1) := by decide +kernel
theorem D150_102 : decode (mB 150) 102 = .ok (.aload_n 0, 1) := by decide +kernel
theorem D150_103 : GF 150 103 9 9 2 := ⟨65, true, by decide +kernel, by decide +kernel⟩
theorem D150_106 : decode (mB 150) 106 = .ok (.iload_n 3, 1) := by decide +kernel
theorem D150_107 : decode (mB 150) 107 = .ok (.iconst 1, 1) := by decide +kernel
theorem D150_108 : decode (mB 150) 108 = .ok (.isub, 1) := by decide +kernel
theorem D150_109 : CS 150 109 159 0 := ⟨.invokevirtual 270, by decide +kernel, by decide +kernel, by decide +kernel, by decide⟩
theorem D150_112 : BR 150 112 (.goto 4) (4) 116 := ⟨by decide +kernel, by decide, by decide⟩
theorem LC_lookout_e (d : Nat) (a0 : Nat) (x1 : Int32) (x2 : Int32) (x3 : Int32) (m : eM) (h_a0 : kd a0 = 9) : LC_lookout (d + 1) a0 x1 x2 x3 m = bL (LC_possible d a0 m) fun v2 m1 => bR (gR m1 a0 2) fun r3 => gd r3 6 (bR (gR m1 r3 0) fun r5 => gd r5 4 (bI (Pa_isThere d r5 x1 m1) fun v8 m7 => if v8 = 0 then (yI (-1 : Int32) m7) else (bR (gR m7 a0 2) fun r9 => gd r9 6 (bR (gR m7 r9 0) fun r11 => gd r11 4 (bI (Pa_isFact d r11 x2 m7) fun v14 m13 => if v14 = 0 then (yI (-1 : Int32) m13) else (if x3 < 0 then (yI (-1 : Int32) m13) else (if (3 : Int32) < x3 then (yI (-1 : Int32) m13) else (if ¬ (lg_cmp v2 (0 : Int64)) = 0 then (bR (gR m13 a0 9) fun r15 => bR (gR m13 a0 5) fun r16 => bR (gR m13 a0 2) fun r17 => gd r15 5 (bV (Se_ask d r15 r16 r17 x1 v2 m13) fun m19 => bR (gR m19 a0 9) fun r20 => bL (LC_factSo d x2 m19) fun v22 m21 => gd r20 5 (bI (Se_fewestMinutes d r20 v22 m21) fun v25 m24 => if x3 = 0 then (yI v25 m24) else (if ¬ v25 = (-1 : Int32) then (if v25 < x3 then (yI (-1 : Int32) m24) else (bR (gR m24 a0 9) fun r26 => gd r26 5 (bI (Se_minute d r26 (x3 - (1 : Int32)) m24) fun v29 m28 => yI v29 m28))) else (yI v25 m24))))) else (yI (-1 : Int32) m13))))))))) := by
  unfold LC_lookout
  refine (x_aload1 D150_0 rfl).trans ?_
  refine (x_cL D150_1 M97  (I97 _) rfl rfl (ok_i M97 (I97 _) rfl rfl h_a0)).trans (bL_c fun v2 m1 => ?_)
  refine (x_lstore2 D150_4 (ls' := [.ref a0, .int x1, .int x2, .int x3, .long v2, eU, eU]) rfl rfl).trans ?_
  refine (x_aload1 D150_6 rfl).trans ?_
  refine ((x_getR D150_7).trans (gd_t h_a0)).trans (bR_c fun r3 => ?_)
  refine (x_getR D150_10).trans (gd_c fun h4 => bR_c fun r5 => ?_)
  refine (x_iload1 D150_13 rfl).trans ?_
  refine (x_cg D150_14 M89 rfl rfl).trans (gd_c fun h6 => ?_)
  refine (x_cI D150_14 M89 (fun z => by cases z) (I89 _ _) rfl rfl (ok_i M89 (I89 _ _) rfl rfl h6)).trans (bI_c fun v8 m7 => ?_)
  refine (x_ifeq D150_17).trans (i_c ?_ ?_)
  · refine (x_iconst D150_50 (k := -1) (by decide)).trans ?_
    exact x_iret D150_51 M150.2.2.1
  · refine (x_aload1 D150_20 rfl).trans ?_
    refine ((x_getR D150_21).trans (gd_t h_a0)).trans (bR_c fun r9 => ?_)
    refine (x_getR D150_24).trans (gd_c fun h10 => bR_c fun r11 => ?_)
    refine (x_iload1 D150_27 rfl).trans ?_
    refine (x_cg D150_28 M120 rfl rfl).trans (gd_c fun h12 => ?_)
    refine (x_cI D150_28 M120 (fun z => by cases z) (I120 _ _) rfl rfl (ok_i M120 (I120 _ _) rfl rfl h12)).trans (bI_c fun v14 m13 => ?_)
    refine (x_ifeq D150_31).trans (i_c ?_ ?_)
    · refine (x_iconst D150_50 (k := -1) (by decide)).trans ?_
      exact x_iret D150_51 M150.2.2.1
    · refine (x_iload1 D150_34 rfl).trans ?_
      refine (x_iflt D150_35).trans (i_c ?_ ?_)
      · refine (x_iconst D150_50 (k := -1) (by decide)).trans ?_
        exact x_iret D150_51 M150.2.2.1
      · refine (x_iload1 D150_38 rfl).trans ?_
        refine (x_iconst D150_39 (k := 3) (by decide)).trans ?_
        refine (x_cgt D150_40).trans (i_c ?_ ?_)
        · refine (x_iconst D150_50 (k := -1) (by decide)).trans ?_
          exact x_iret D150_51 M150.2.2.1
        · refine (x_lload2 D150_43 rfl).trans ?_
          refine (x_lconst0 D150_45).trans ?_
          refine (x_lcmp D150_46).trans ?_
          refine (x_ifne D150_47).trans (i_c ?_ ?_)
          · refine (x_aload1 D150_52 rfl).trans ?_
            refine ((x_getR D150_53).trans (gd_t h_a0)).trans (bR_c fun r15 => ?_)
            refine (x_aload1 D150_56 rfl).trans ?_
            refine ((x_getR D150_57).trans (gd_t h_a0)).trans (bR_c fun r16 => ?_)
            refine (x_aload1 D150_60 rfl).trans ?_
            refine ((x_getR D150_61).trans (gd_t h_a0)).trans (bR_c fun r17 => ?_)
            refine (x_iload1 D150_64 rfl).trans ?_
            refine (x_lload2 D150_65 rfl).trans ?_
            refine (x_cg D150_67 M151 rfl rfl).trans (gd_c fun h18 => ?_)
            refine (x_cV D150_67 M151  (I151 _ _ _ _ _) rfl rfl (ok_i M151 (I151 _ _ _ _ _) rfl rfl h18)).trans (bV_c fun m19 => ?_)
            refine (x_aload1 D150_70 rfl).trans ?_
            refine ((x_getR D150_71).trans (gd_t h_a0)).trans (bR_c fun r20 => ?_)
            refine (x_iload1 D150_74 rfl).trans ?_
            refine (x_cL D150_75 M84  (I84 _) rfl rfl (ok_s M84 (I84 _) rfl rfl)).trans (bL_c fun v22 m21 => ?_)
            refine (x_cg D150_78 M155 rfl rfl).trans (gd_c fun h23 => ?_)
            refine (x_cI D150_78 M155 (fun z => by cases z) (I155 _ _) rfl rfl (ok_i M155 (I155 _ _) rfl rfl h23)).trans (bI_c fun v25 m24 => ?_)
            refine (x_istore2 D150_81 (ls' := [.ref a0, .int x1, .int x2, .int x3, .long v2, eU, .int v25]) rfl rfl).trans ?_
            refine (x_iload1 D150_83 rfl).trans ?_
            refine (x_ifeq D150_84).trans (i_c ?_ ?_)
            · refine (x_iload2 D150_93 rfl).trans ?_
              exact x_iret D150_95 M150.2.2.1
            · refine (x_iload2 D150_87 rfl).trans ?_
              refine (x_iconst D150_89 (k := -1) (by decide)).trans ?_
              refine (x_cne D150_90).trans (i_c ?_ ?_)
              · refine (x_iload1 D150_96 rfl).trans ?_
                refine (x_iload2 D150_97 rfl).trans ?_
                refine (x_cgt D150_99).trans (i_c ?_ ?_)
                · refine (x_iconst D150_115 (k := -1) (by decide)).trans ?_
                  exact x_iret D150_116 M150.2.2.1
                · refine (x_aload1 D150_102 rfl).trans ?_
                  refine ((x_getR D150_103).trans (gd_t h_a0)).trans (bR_c fun r26 => ?_)
                  refine (x_iload1 D150_106 rfl).trans ?_
                  refine (x_iconst D150_107 (k := 1) (by decide)).trans ?_
                  refine (x_isub D150_108).trans ?_
                  refine (x_cg D150_109 M159 rfl rfl).trans (gd_c fun h27 => ?_)
                  refine (x_cI D150_109 M159 (fun z => by cases z) (I159 _ _) rfl rfl (ok_i M159 (I159 _ _) rfl rfl h27)).trans (bI_c fun v29 m28 => ?_)
                  refine (x_goto D150_112).trans ?_
                  exact x_iret D150_116 M150.2.2.1
              · refine (x_iload2 D150_93 rfl).trans ?_
                exact x_iret D150_95 M150.2.2.1
          · refine (x_iconst D150_50 (k := -1) (by decide)).trans ?_
            exact x_iret D150_51 M150.2.2.1
theorem D160_0 : decode (mB 160) 0 = .ok (.iconst 0, 1) := by decide +kernel
theorem D160_1 : decode (mB 160) 1 = .ok (.istore_n 1, 1) := by decide +kernel
theorem D160_2 : decode (mB 160) 2 = .ok (.iload_n 1, 1) := by decide +kernel
theorem D160_3 : decode (mB 160) 3 = .ok (.aload_n 0, 1) := by decide +kernel
theorem D160_4 : GF 160 4 9 2 2 := ⟨26, true, by decide +kernel, by decide +kernel⟩
theorem D160_7 : GF 160 7 6 3 2 := ⟨145, true, by decide +kernel, by decide +kernel⟩
theorem D160_10 : CS 160 10 91 0 := ⟨.invokevirtual 149, by decide +kernel, by decide +kernel, by decide +kernel, by decide⟩
theorem D160_13 : BR 160 13 (.if_icmp .ge 29) (29) 42 := ⟨by decide +kernel, by decide, by decide⟩
theorem D160_42 : decode (mB 160) 42 = .ok (.iconst (-1), 1) := by decide +kernel
theorem D160_43 : decode (mB 160) 43 = .ok (.ireturn, 1) := by decide +kernel
theorem D160_16 : decode (mB 160) 16 = .ok (.aload_n 0, 1) := by decide +kernel
theorem D160_17 : decode (mB 160) 17 = .ok (.iload_n 1, 1) := by decide +kernel
theorem D160_18 : CS 160 18 98 0 := ⟨.invokevirtual 273, by decide +kernel, by decide +kernel, by decide +kernel, by decide⟩
theorem D160_21 : decode (mB 160) 21 = .ok (.aload_n 0, 1) := by decide +kernel
theorem D160_22 : GF 160 22 9 2 2 := ⟨26, true, by decide +kernel, by decide +kernel⟩
theorem D160_25 : GF 160 25 6 5 0 := ⟨132, false, by decide +kernel, by decide +kernel⟩
theorem D160_28 : CS 160 28 96 2 := ⟨.invokestatic 163, by decide +kernel, by decide +kernel, by decide +kernel, by decide⟩
theorem D160_31 : BR 160 31 (.ifCond .ne 5) (5) 36 := ⟨by decide +kernel, by decide, by decide⟩
theorem D160_36 : decode (mB 160) 36 = .ok (.iinc 1 1, 3) := by decide +kernel
theorem D160_39 : BR 160 39 (.goto (-37)) (-37) 2 := ⟨by decide +kernel, by decide, by decide⟩
theorem D160_34 : decode (mB 160) 34 = .ok (.iload_n 1, 1) := by decide +kernel
theorem D160_35 : decode (mB 160) 35 = .ok (.ireturn, 1) := by decide +kernel
theorem LC_judged_e (d : Nat) (a0 : Nat) (m : eM) (h_a0 : kd a0 = 9) : LC_judged (d + 1) a0 m = LC_judged_2 (d + 1) a0 (0 : Int32) m := by
  unfold LC_judged
  refine (x_iconst D160_0 (k := 0) (by decide)).trans ?_
  refine (x_istore1 D160_1 (ls' := [.ref a0, .int (0 : Int32)]) rfl rfl).trans ?_
  rfl
theorem LC_judged_2_e (d : Nat) (a0 : Nat) (x1 : Int32) (m : eM) (h_a0 : kd a0 = 9) : LC_judged_2 (d + 1) a0 x1 m = bR (gR m a0 2) fun r1 => gd r1 6 (bR (gR m r1 3) fun r3 => gd r3 3 (bI (Lo_size d r3 m) fun v6 m5 => if v6 ≤ x1 then (yI (-1 : Int32) m5) else (bL (LC_fitting d a0 x1 m5) fun v8 m7 => bR (gR m7 a0 2) fun r9 => gd r9 6 (bI (LC_holds d v8 (gI m7 r9 5) m7) fun v12 m11 => if ¬ v12 = 0 then (LC_judged_2 (d + 1) a0 (x1 + (1 : Int32)) m11) else (yI x1 m11))))) := by
  unfold LC_judged_2
  refine (x_iload1 D160_2 rfl).trans ?_
  refine (x_aload1 D160_3 rfl).trans ?_
  refine ((x_getR D160_4).trans (gd_t h_a0)).trans (bR_c fun r1 => ?_)
  refine (x_getR D160_7).trans (gd_c fun h2 => bR_c fun r3 => ?_)
  refine (x_cg D160_10 M91 rfl rfl).trans (gd_c fun h4 => ?_)
  refine (x_cI D160_10 M91 (fun z => by cases z) (I91 _) rfl rfl (ok_i M91 (I91 _) rfl rfl h4)).trans (bI_c fun v6 m5 => ?_)
  refine (x_cge D160_13).trans (i_c ?_ ?_)
  · refine (x_iconst D160_42 (k := -1) (by decide)).trans ?_
    exact x_iret D160_43 M160.2.2.1
  · refine (x_aload1 D160_16 rfl).trans ?_
    refine (x_iload1 D160_17 rfl).trans ?_
    refine (x_cL D160_18 M98  (I98 _ _) rfl rfl (ok_i M98 (I98 _ _) rfl rfl h_a0)).trans (bL_c fun v8 m7 => ?_)
    refine (x_aload1 D160_21 rfl).trans ?_
    refine ((x_getR D160_22).trans (gd_t h_a0)).trans (bR_c fun r9 => ?_)
    refine (x_getI D160_25).trans (gd_c fun h10 => ?_)
    refine (x_cI D160_28 M96 (fun z => by cases z) (I96 _ _) rfl rfl (ok_s M96 (I96 _ _) rfl rfl)).trans (bI_c fun v12 m11 => ?_)
    refine (x_ifne D160_31).trans (i_c ?_ ?_)
    · refine (x_iinc D160_36 rfl (k := 1) (by decide) (ls' := [.ref a0, .int (x1 + (1 : Int32))]) rfl).trans ?_
      refine (x_goto D160_39).trans ?_
      rfl
    · refine (x_iload1 D160_34 rfl).trans ?_
      exact x_iret D160_35 M160.2.2.1
theorem D161_0 : decode (mB 161) 0 = .ok (.aload_n 0, 1) := by decide +kernel
theorem D161_1 : GF 161 1 9 2 2 := ⟨26, true, by decide +kernel, by decide +kernel⟩
theorem D161_4 : GF 161 4 6 0 2 := ⟨124, false, by decide +kernel, by decide +kernel⟩
theorem D161_7 : decode (mB 161) 7 = .ok (.iload_n 1, 1) := by decide +kernel
theorem D161_8 : CS 161 8 89 0 := ⟨.invokevirtual 136, by decide +kernel, by decide +kernel, by decide +kernel, by decide⟩
theorem D161_11 : BR 161 11 (.ifCond .eq 10) (10) 21 := ⟨by decide +kernel, by decide, by decide⟩
theorem D161_21 : decode (mB 161) 21 = .ok (.iconst (-1), 1) := by decide +kernel
theorem D161_22 : decode (mB 161) 22 = .ok (.ireturn, 1) := by decide +kernel
theorem D161_14 : decode (mB 161) 14 = .ok (.iload_n 2, 1) := by decide +kernel
theorem D161_15 : CS 161 15 69 2 := ⟨.invokestatic 139, by decide +kernel, by decide +kernel, by decide +kernel, by decide⟩
theorem D161_18 : BR 161 18 (.ifCond .ne 5) (5) 23 := ⟨by decide +kernel, by decide, by decide⟩
theorem D161_23 : decode (mB 161) 23 = .ok (.aload_n 0, 1) := by decide +kernel
theorem D161_24 : GF 161 24 9 7 2 := ⟨55, true, by decide +kernel, by decide +kernel⟩
theorem D161_27 : decode (mB 161) 27 = .ok (.aload_n 0, 1) := by decide +kernel
theorem D161_28 : GF 161 28 9 2 2 := ⟨26, true, by decide +kernel, by decide +kernel⟩
theorem D161_31 : decode (mB 161) 31 = .ok (.iload_n 1, 1) := by decide +kernel
theorem D161_32 : CS 161 32 162 0 := ⟨.invokevirtual 276, by decide +kernel, by decide +kernel, by decide +kernel, by decide⟩
theorem D161_35 : decode (mB 161) 35 = .ok (.aload_n 0, 1) := by decide +kernel
theorem D161_36 : GF 161 36 9 7 2 := ⟨55, true, by decide +kernel, by decide +kernel⟩
theorem D161_39 : decode (mB 161) 39 = .ok (.iload_n 2, 1) := by decide +kernel
theorem D161_40 : CS 161 40 165 0 := ⟨.invokevirtual 280, by decide +kernel, by decide +kernel, by decide +kernel, by decide⟩
theorem D161_43 : decode (mB 161) 43 = .ok (.ireturn, 1) := by decide +kernel
theorem LC_turned_e (d : Nat) (a0 : Nat) (x1 : Int32) (x2 : Int32) (m : eM) (h_a0 : kd a0 = 9) : LC_turned (d + 1) a0 x1 x2 m = bR (gR m a0 2) fun r1 => gd r1 6 (bR (gR m r1 0) fun r3 => gd r3 4 (bI (Pa_isThere d r3 x1 m) fun v6 m5 => if v6 = 0 then (yI (-1 : Int32) m5) else (bI (LC_isMinute d x2 m5) fun v8 m7 => if ¬ v8 = 0 then (bR (gR m7 a0 7) fun r9 => bR (gR m7 a0 2) fun r10 => gd r9 1 (bV (Co_follow d r9 r10 x1 m7) fun m12 => bR (gR m12 a0 7) fun r13 => gd r13 1 (bI (Co_turns d r13 x2 m12) fun v16 m15 => yI v16 m15))) else (yI (-1 : Int32) m7)))) := by
  unfold LC_turned
  refine (x_aload1 D161_0 rfl).trans ?_
  refine ((x_getR D161_1).trans (gd_t h_a0)).trans (bR_c fun r1 => ?_)
  refine (x_getR D161_4).trans (gd_c fun h2 => bR_c fun r3 => ?_)
  refine (x_iload1 D161_7 rfl).trans ?_
  refine (x_cg D161_8 M89 rfl rfl).trans (gd_c fun h4 => ?_)
  refine (x_cI D161_8 M89 (fun z => by cases z) (I89 _ _) rfl rfl (ok_i M89 (I89 _ _) rfl rfl h4)).trans (bI_c fun v6 m5 => ?_)
  refine (x_ifeq D161_11).trans (i_c ?_ ?_)
  · refine (x_iconst D161_21 (k := -1) (by decide)).trans ?_
    exact x_iret D161_22 M161.2.2.1
  · refine (x_iload1 D161_14 rfl).trans ?_
    refine (x_cI D161_15 M69 (fun z => by cases z) (I69 _) rfl rfl (ok_s M69 (I69 _) rfl rfl)).trans (bI_c fun v8 m7 => ?_)
    refine (x_ifne D161_18).trans (i_c ?_ ?_)
    · refine (x_aload1 D161_23 rfl).trans ?_
      refine ((x_getR D161_24).trans (gd_t h_a0)).trans (bR_c fun r9 => ?_)
      refine (x_aload1 D161_27 rfl).trans ?_
      refine ((x_getR D161_28).trans (gd_t h_a0)).trans (bR_c fun r10 => ?_)
      refine (x_iload1 D161_31 rfl).trans ?_
      refine (x_cg D161_32 M162 rfl rfl).trans (gd_c fun h11 => ?_)
      refine (x_cV D161_32 M162  (I162 _ _ _) rfl rfl (ok_i M162 (I162 _ _ _) rfl rfl h11)).trans (bV_c fun m12 => ?_)
      refine (x_aload1 D161_35 rfl).trans ?_
      refine ((x_getR D161_36).trans (gd_t h_a0)).trans (bR_c fun r13 => ?_)
      refine (x_iload1 D161_39 rfl).trans ?_
      refine (x_cg D161_40 M165 rfl rfl).trans (gd_c fun h14 => ?_)
      refine (x_cI D161_40 M165 (fun z => by cases z) (I165 _ _) rfl rfl (ok_i M165 (I165 _ _) rfl rfl h14)).trans (bI_c fun v16 m15 => ?_)
      exact x_iret D161_43 M161.2.2.1
    · refine (x_iconst D161_21 (k := -1) (by decide)).trans ?_
      exact x_iret D161_22 M161.2.2.1
theorem D167_0 : decode (mB 167) 0 = .ok (.aload_n 0, 1) := by decide +kernel
theorem D167_1 : GF 167 1 9 2 2 := ⟨26, true, by decide +kernel, by decide +kernel⟩
theorem D167_4 : GF 167 4 6 0 2 := ⟨124, false, by decide +kernel, by decide +kernel⟩
theorem D167_7 : decode (mB 167) 7 = .ok (.iload_n 1, 1) := by decide +kernel
theorem D167_8 : CS 167 8 89 0 := ⟨.invokevirtual 136, by decide +kernel, by decide +kernel, by decide +kernel, by decide⟩
theorem D167_11 : BR 167 11 (.ifCond .eq 31) (31) 42 := ⟨by decide +kernel, by decide, by decide⟩
theorem D167_42 : decode (mB 167) 42 = .ok (.iconst (-1), 1) := by decide +kernel
theorem D167_43 : decode (mB 167) 43 = .ok (.ireturn, 1) := by decide +kernel
theorem D167_14 : decode (mB 167) 14 = .ok (.iload_n 2, 1) := by decide +kernel
theorem D167_15 : decode (mB 167) 15 = .ok (.iconst (-1), 1) := by decide +kernel
theorem D167_16 : BR 167 16 (.if_icmp .eq 17) (17) 33 := ⟨by decide +kernel, by decide, by decide⟩
theorem D167_19 : decode (mB 167) 19 = .ok (.aload_n 0, 1) := by decide +kernel
theorem D167_20 : GF 167 20 9 2 2 := ⟨26, true, by decide +kernel, by decide +kernel⟩
theorem D167_23 : GF 167 23 6 0 2 := ⟨124, false, by decide +kernel, by decide +kernel⟩
theorem D167_26 : decode (mB 167) 26 = .ok (.iload_n 2, 1) := by decide +kernel
theorem D167_27 : CS 167 27 68 0 := ⟨.invokevirtual 283, by decide +kernel, by decide +kernel, by decide +kernel, by decide⟩
theorem D167_30 : BR 167 30 (.ifCond .eq 12) (12) 42 := ⟨by decide +kernel, by decide, by decide⟩
theorem D167_33 : decode (mB 167) 33 = .ok (.iload_n 3, 1) := by decide +kernel
theorem D167_34 : decode (mB 167) 34 = .ok (.iload 4, 2) := by decide +kernel
theorem D167_36 : CS 167 36 139 2 := ⟨.invokestatic 286, by decide +kernel, by decide +kernel, by decide +kernel, by decide⟩
theorem D167_39 : BR 167 39 (.ifCond .ne 5) (5) 44 := ⟨by decide +kernel, by decide, by decide⟩
theorem D167_44 : decode (mB 167) 44 = .ok (.aload_n 0, 1) := by decide +kernel
theorem D167_45 : GF 167 45 9 7 2 := ⟨55, true, by decide +kernel, by decide +kernel⟩
theorem D167_48 : decode (mB 167) 48 = .ok (.aload_n 0, 1) := by decide +kernel
theorem D167_49 : GF 167 49 9 2 2 := ⟨26, true, by decide +kernel, by decide +kernel⟩
theorem D167_52 : decode (mB 167) 52 = .ok (.iload_n 1, 1) := by decide +kernel
theorem D167_53 : CS 167 53 162 0 := ⟨.invokevirtual 276, by decide +kernel, by decide +kernel, by decide +kernel, by decide⟩
theorem D167_56 : decode (mB 167) 56 = .ok (.aload_n 0, 1) := by decide +kernel
theorem D167_57 : GF 167 57 9 7 2 := ⟨55, true, by decide +kernel, by decide +kernel⟩
theorem D167_60 : decode (mB 167) 60 = .ok (.iload_n 2, 1) := by decide +kernel
theorem D167_61 : decode (mB 167) 61 = .ok (.iload_n 3, 1) := by decide +kernel
theorem D167_62 : decode (mB 167) 62 = .ok (.iload 4, 2) := by decide +kernel
theorem D167_64 : CS 167 64 168 0 := ⟨.invokevirtual 289, by decide +kernel, by decide +kernel, by decide +kernel, by decide⟩
theorem D167_67 : decode (mB 167) 67 = .ok (.ireturn, 1) := by decide +kernel
theorem LC_pointed_e (d : Nat) (a0 : Nat) (x1 : Int32) (x2 : Int32) (x3 : Int32) (x4 : Int32) (m : eM) (h_a0 : kd a0 = 9) : LC_pointed (d + 1) a0 x1 x2 x3 x4 m = bR (gR m a0 2) fun r1 => gd r1 6 (bR (gR m r1 0) fun r3 => gd r3 4 (bI (Pa_isThere d r3 x1 m) fun v6 m5 => if v6 = 0 then (yI (-1 : Int32) m5) else (if x2 = (-1 : Int32) then (LC_pointed_33 (d + 1) a0 x1 x2 x3 x4 m5) else (bR (gR m5 a0 2) fun r7 => gd r7 6 (bR (gR m5 r7 0) fun r9 => gd r9 4 (bI (Pa_isPerson d r9 x2 m5) fun v12 m11 => if v12 = 0 then (yI (-1 : Int32) m11) else (LC_pointed_33 (d + 1) a0 x1 x2 x3 x4 m11))))))) := by
  unfold LC_pointed
  refine (x_aload1 D167_0 rfl).trans ?_
  refine ((x_getR D167_1).trans (gd_t h_a0)).trans (bR_c fun r1 => ?_)
  refine (x_getR D167_4).trans (gd_c fun h2 => bR_c fun r3 => ?_)
  refine (x_iload1 D167_7 rfl).trans ?_
  refine (x_cg D167_8 M89 rfl rfl).trans (gd_c fun h4 => ?_)
  refine (x_cI D167_8 M89 (fun z => by cases z) (I89 _ _) rfl rfl (ok_i M89 (I89 _ _) rfl rfl h4)).trans (bI_c fun v6 m5 => ?_)
  refine (x_ifeq D167_11).trans (i_c ?_ ?_)
  · refine (x_iconst D167_42 (k := -1) (by decide)).trans ?_
    exact x_iret D167_43 M167.2.2.1
  · refine (x_iload1 D167_14 rfl).trans ?_
    refine (x_iconst D167_15 (k := -1) (by decide)).trans ?_
    refine (x_ceq D167_16).trans (i_c ?_ ?_)
    · rfl
    · refine (x_aload1 D167_19 rfl).trans ?_
      refine ((x_getR D167_20).trans (gd_t h_a0)).trans (bR_c fun r7 => ?_)
      refine (x_getR D167_23).trans (gd_c fun h8 => bR_c fun r9 => ?_)
      refine (x_iload1 D167_26 rfl).trans ?_
      refine (x_cg D167_27 M68 rfl rfl).trans (gd_c fun h10 => ?_)
      refine (x_cI D167_27 M68 (fun z => by cases z) (I68 _ _) rfl rfl (ok_i M68 (I68 _ _) rfl rfl h10)).trans (bI_c fun v12 m11 => ?_)
      refine (x_ifeq D167_30).trans (i_c ?_ ?_)
      · refine (x_iconst D167_42 (k := -1) (by decide)).trans ?_
        exact x_iret D167_43 M167.2.2.1
      · rfl
theorem LC_pointed_33_e (d : Nat) (a0 : Nat) (x1 : Int32) (x2 : Int32) (x3 : Int32) (x4 : Int32) (m : eM) (h_a0 : kd a0 = 9) : LC_pointed_33 (d + 1) a0 x1 x2 x3 x4 m = bI (LC_isSpan d x3 x4 m) fun v2 m1 => if ¬ v2 = 0 then (bR (gR m1 a0 7) fun r3 => bR (gR m1 a0 2) fun r4 => gd r3 1 (bV (Co_follow d r3 r4 x1 m1) fun m6 => bR (gR m6 a0 7) fun r7 => gd r7 1 (bI (Co_minutesAt d r7 x2 x3 x4 m6) fun v10 m9 => yI v10 m9))) else (yI (-1 : Int32) m1) := by
  unfold LC_pointed_33
  refine (x_iload1 D167_33 rfl).trans ?_
  refine (x_iload2 D167_34 rfl).trans ?_
  refine (x_cI D167_36 M139 (fun z => by cases z) (I139 _ _) rfl rfl (ok_s M139 (I139 _ _) rfl rfl)).trans (bI_c fun v2 m1 => ?_)
  refine (x_ifne D167_39).trans (i_c ?_ ?_)
  · refine (x_aload1 D167_44 rfl).trans ?_
    refine ((x_getR D167_45).trans (gd_t h_a0)).trans (bR_c fun r3 => ?_)
    refine (x_aload1 D167_48 rfl).trans ?_
    refine ((x_getR D167_49).trans (gd_t h_a0)).trans (bR_c fun r4 => ?_)
    refine (x_iload1 D167_52 rfl).trans ?_
    refine (x_cg D167_53 M162 rfl rfl).trans (gd_c fun h5 => ?_)
    refine (x_cV D167_53 M162  (I162 _ _ _) rfl rfl (ok_i M162 (I162 _ _ _) rfl rfl h5)).trans (bV_c fun m6 => ?_)
    refine (x_aload1 D167_56 rfl).trans ?_
    refine ((x_getR D167_57).trans (gd_t h_a0)).trans (bR_c fun r7 => ?_)
    refine (x_iload1 D167_60 rfl).trans ?_
    refine (x_iload1 D167_61 rfl).trans ?_
    refine (x_iload2 D167_62 rfl).trans ?_
    refine (x_cg D167_64 M168 rfl rfl).trans (gd_c fun h8 => ?_)
    refine (x_cI D167_64 M168 (fun z => by cases z) (I168 _ _ _ _) rfl rfl (ok_i M168 (I168 _ _ _ _) rfl rfl h8)).trans (bI_c fun v10 m9 => ?_)
    exact x_iret D167_67 M167.2.2.1
  · refine (x_iconst D167_42 (k := -1) (by decide)).trans ?_
    exact x_iret D167_43 M167.2.2.1
theorem D170_0 : decode (mB 170) 0 = .ok (.aload_n 0, 1) := by decide +kernel
theorem D170_1 : GF 170 1 9 2 2 := ⟨26, true, by decide +kernel, by decide +kernel⟩
theorem D170_4 : GF 170 4 6 0 2 := ⟨124, false, by decide +kernel, by decide +kernel⟩
theorem D170_7 : decode (mB 170) 7 = .ok (.iload_n 1, 1) := by decide +kernel
theorem D170_8 : CS 170 8 89 0 := ⟨.invokevirtual 136, by decide +kernel, by decide +kernel, by decide +kernel, by decide⟩
theorem D170_11 : BR 170 11 (.ifCond .eq 10) (10) 21 := ⟨by decide +kernel, by decide, by decide⟩
theorem D170_21 : decode (mB 170) 21 = .ok (.iconst (-1), 1) := by decide +kernel
theorem D170_22 : decode (mB 170) 22 = .ok (.ireturn, 1) := by decide +kernel
theorem D170_14 : decode (mB 170) 14 = .ok (.iload_n 2, 1) := by decide +kernel
theorem D170_15 : CS 170 15 69 2 := ⟨.invokestatic 139, by decide +kernel, by decide +kernel, by decide +kernel, by decide⟩
theorem D170_18 : BR 170 18 (.ifCond .ne 5) (5) 23 := ⟨by decide +kernel, by decide, by decide⟩
theorem D170_23 : decode (mB 170) 23 = .ok (.aload_n 0, 1) := by decide +kernel
theorem D170_24 : GF 170 24 9 7 2 := ⟨55, true, by decide +kernel, by decide +kernel⟩
theorem D170_27 : decode (mB 170) 27 = .ok (.aload_n 0, 1) := by decide +kernel
theorem D170_28 : GF 170 28 9 2 2 := ⟨26, true, by decide +kernel, by decide +kernel⟩
theorem D170_31 : decode (mB 170) 31 = .ok (.iload_n 1, 1) := by decide +kernel
theorem D170_32 : CS 170 32 162 0 := ⟨.invokevirtual 276, by decide +kernel, by decide +kernel, by decide +kernel, by decide⟩
theorem D170_35 : decode (mB 170) 35 = .ok (.aload_n 0, 1) := by decide +kernel
theorem D170_36 : GF 170 36 9 7 2 := ⟨55, true, by decide +kernel, by decide +kernel⟩
theorem D170_39 : decode (mB 170) 39 = .ok (.aload_n 0, 1) := by decide +kernel
theorem D170_40 : GF 170 40 9 2 2 := ⟨26, true, by decide +kernel, by decide +kernel⟩
theorem D170_43 : GF 170 43 6 0 2 := ⟨124, false, by decide +kernel, by decide +kernel⟩
theorem D170_46 : decode (mB 170) 46 = .ok (.iload_n 2, 1) := by decide +kernel
theorem D170_47 : CS 170 47 171 0 := ⟨.invokevirtual 293, by decide +kernel, by decide +kernel, by decide +kernel, by decide⟩
theorem D170_50 : decode (mB 170) 50 = .ok (.ireturn, 1) := by decide +kernel
theorem LC_round_e (d : Nat) (a0 : Nat) (x1 : Int32) (x2 : Int32) (m : eM) (h_a0 : kd a0 = 9) : LC_round (d + 1) a0 x1 x2 m = bR (gR m a0 2) fun r1 => gd r1 6 (bR (gR m r1 0) fun r3 => gd r3 4 (bI (Pa_isThere d r3 x1 m) fun v6 m5 => if v6 = 0 then (yI (-1 : Int32) m5) else (bI (LC_isMinute d x2 m5) fun v8 m7 => if ¬ v8 = 0 then (bR (gR m7 a0 7) fun r9 => bR (gR m7 a0 2) fun r10 => gd r9 1 (bV (Co_follow d r9 r10 x1 m7) fun m12 => bR (gR m12 a0 7) fun r13 => bR (gR m12 a0 2) fun r14 => gd r14 6 (bR (gR m12 r14 0) fun r16 => gd r13 1 (bI (Co_degrees d r13 r16 x2 m12) fun v19 m18 => yI v19 m18)))) else (yI (-1 : Int32) m7)))) := by
  unfold LC_round
  refine (x_aload1 D170_0 rfl).trans ?_
  refine ((x_getR D170_1).trans (gd_t h_a0)).trans (bR_c fun r1 => ?_)
  refine (x_getR D170_4).trans (gd_c fun h2 => bR_c fun r3 => ?_)
  refine (x_iload1 D170_7 rfl).trans ?_
  refine (x_cg D170_8 M89 rfl rfl).trans (gd_c fun h4 => ?_)
  refine (x_cI D170_8 M89 (fun z => by cases z) (I89 _ _) rfl rfl (ok_i M89 (I89 _ _) rfl rfl h4)).trans (bI_c fun v6 m5 => ?_)
  refine (x_ifeq D170_11).trans (i_c ?_ ?_)
  · refine (x_iconst D170_21 (k := -1) (by decide)).trans ?_
    exact x_iret D170_22 M170.2.2.1
  · refine (x_iload1 D170_14 rfl).trans ?_
    refine (x_cI D170_15 M69 (fun z => by cases z) (I69 _) rfl rfl (ok_s M69 (I69 _) rfl rfl)).trans (bI_c fun v8 m7 => ?_)
    refine (x_ifne D170_18).trans (i_c ?_ ?_)
    · refine (x_aload1 D170_23 rfl).trans ?_
      refine ((x_getR D170_24).trans (gd_t h_a0)).trans (bR_c fun r9 => ?_)
      refine (x_aload1 D170_27 rfl).trans ?_
      refine ((x_getR D170_28).trans (gd_t h_a0)).trans (bR_c fun r10 => ?_)
      refine (x_iload1 D170_31 rfl).trans ?_
      refine (x_cg D170_32 M162 rfl rfl).trans (gd_c fun h11 => ?_)
      refine (x_cV D170_32 M162  (I162 _ _ _) rfl rfl (ok_i M162 (I162 _ _ _) rfl rfl h11)).trans (bV_c fun m12 => ?_)
      refine (x_aload1 D170_35 rfl).trans ?_
      refine ((x_getR D170_36).trans (gd_t h_a0)).trans (bR_c fun r13 => ?_)
      refine (x_aload1 D170_39 rfl).trans ?_
      refine ((x_getR D170_40).trans (gd_t h_a0)).trans (bR_c fun r14 => ?_)
      refine (x_getR D170_43).trans (gd_c fun h15 => bR_c fun r16 => ?_)
      refine (x_iload1 D170_46 rfl).trans ?_
      refine (x_cg D170_47 M171 rfl rfl).trans (gd_c fun h17 => ?_)
      refine (x_cI D170_47 M171 (fun z => by cases z) (I171 _ _ _) rfl rfl (ok_i M171 (I171 _ _ _) rfl rfl h17)).trans (bI_c fun v19 m18 => ?_)
      exact x_iret D170_50 M170.2.2.1
    · refine (x_iconst D170_21 (k := -1) (by decide)).trans ?_
      exact x_iret D170_22 M170.2.2.1
theorem D172_0 : decode (mB 172) 0 = .ok (.iload_n 0, 1) := by decide +kernel
theorem D172_1 : decode (mB 172) 1 = .ok (.iload_n 1, 1) := by decide +kernel
theorem D172_2 : decode (mB 172) 2 = .ok (.isub, 1) := by decide +kernel
theorem D172_3 : MA 172 3 2 := ⟨390, by decide +kernel, by decide +kernel, by decide +kernel⟩
theorem D172_6 : decode (mB 172) 6 = .ok (.istore_n 2, 1) := by decide +kernel
theorem D172_7 : decode (mB 172) 7 = .ok (.iload_n 2, 1) := by decide +kernel
theorem D172_8 : decode (mB 172) 8 = .ok (.sipush 360, 3) := by decide +kernel
theorem D172_11 : decode (mB 172) 11 = .ok (.iload_n 2, 1) := by decide +kernel
theorem D172_12 : decode (mB 172) 12 = .ok (.isub, 1) := by decide +kernel
theorem D172_13 : MA 172 13 1 := ⟨393, by decide +kernel, by decide +kernel, by decide +kernel⟩
theorem D172_16 : decode (mB 172) 16 = .ok (.ireturn, 1) := by decide +kernel
theorem LC_shorterWay_e (d : Nat) (x0 : Int32) (x1 : Int32) (m : eM)  : LC_shorterWay (d + 1) x0 x1 m = yI (iMin (iAbs (x0 - x1)) ((360 : Int32) - (iAbs (x0 - x1)))) m := by
  unfold LC_shorterWay
  refine (x_iload1 D172_0 rfl).trans ?_
  refine (x_iload1 D172_1 rfl).trans ?_
  refine (x_isub D172_2).trans ?_
  refine (x_abs D172_3 rfl).trans ?_
  refine (x_istore1 D172_6 (ls' := [.int x0, .int x1, .int (iAbs (x0 - x1))]) rfl rfl).trans ?_
  refine (x_iload1 D172_7 rfl).trans ?_
  refine (x_sipush D172_8 (k := 360) (by decide)).trans ?_
  refine (x_iload1 D172_11 rfl).trans ?_
  refine (x_isub D172_12).trans ?_
  refine (x_min D172_13 rfl).trans ?_
  exact x_iret D172_16 M172.2.2.1
theorem D173_0 : decode (mB 173) 0 = .ok (.aload_n 0, 1) := by decide +kernel
theorem D173_1 : GF 173 1 9 2 2 := ⟨26, true, by decide +kernel, by decide +kernel⟩
theorem D173_4 : GF 173 4 6 0 2 := ⟨124, false, by decide +kernel, by decide +kernel⟩
theorem D173_7 : decode (mB 173) 7 = .ok (.iload_n 1, 1) := by decide +kernel
theorem D173_8 : CS 173 8 89 0 := ⟨.invokevirtual 136, by decide +kernel, by decide +kernel, by decide +kernel, by decide⟩
theorem D173_11 : BR 173 11 (.ifCond .eq 19) (19) 30 := ⟨by decide +kernel, by decide, by decide⟩
theorem D173_30 : decode (mB 173) 30 = .ok (.iconst (-1), 1) := by decide +kernel
theorem D173_31 : decode (mB 173) 31 = .ok (.ireturn, 1) := by decide +kernel
theorem D173_14 : decode (mB 173) 14 = .ok (.iload_n 2, 1) := by decide +kernel
theorem D173_15 : decode (mB 173) 15 = .ok (.iload_n 3, 1) := by decide +kernel
theorem D173_16 : CS 173 16 139 2 := ⟨.invokestatic 286, by decide +kernel, by decide +kernel, by decide +kernel, by decide⟩
theorem D173_19 : BR 173 19 (.ifCond .eq 11) (11) 30 := ⟨by decide +kernel, by decide, by decide⟩
theorem D173_22 : decode (mB 173) 22 = .ok (.iload 4, 2) := by decide +kernel
theorem D173_24 : CS 173 24 125 2 := ⟨.invokestatic 201, by decide +kernel, by decide +kernel, by decide +kernel, by decide⟩
theorem D173_27 : BR 173 27 (.ifCond .ne 5) (5) 32 := ⟨by decide +kernel, by decide, by decide⟩
theorem D173_32 : decode (mB 173) 32 = .ok (.aload_n 0, 1) := by decide +kernel
theorem D173_33 : GF 173 33 9 7 2 := ⟨55, true, by decide +kernel, by decide +kernel⟩
theorem D173_36 : decode (mB 173) 36 = .ok (.aload_n 0, 1) := by decide +kernel
theorem D173_37 : GF 173 37 9 2 2 := ⟨26, true, by decide +kernel, by decide +kernel⟩
theorem D173_40 : decode (mB 173) 40 = .ok (.iload_n 1, 1) := by decide +kernel
theorem D173_41 : CS 173 41 162 0 := ⟨.invokevirtual 276, by decide +kernel, by decide +kernel, by decide +kernel, by decide⟩
theorem D173_44 : decode (mB 173) 44 = .ok (.aload_n 0, 1) := by decide +kernel
theorem D173_45 : GF 173 45 9 7 2 := ⟨55, true, by decide +kernel, by decide +kernel⟩
theorem D173_48 : decode (mB 173) 48 = .ok (.iload_n 2, 1) := by decide +kernel
theorem D173_49 : decode (mB 173) 49 = .ok (.iload_n 3, 1) := by decide +kernel
theorem D173_50 : CS 173 50 174 0 := ⟨.invokevirtual 297, by decide +kernel, by decide +kernel, by decide +kernel, by decide⟩
theorem D173_53 : decode (mB 173) 53 = .ok (.istore 5, 2) := by decide +kernel
theorem D173_55 : decode (mB 173) 55 = .ok (.iload 5, 2) := by decide +kernel
theorem D173_57 : decode (mB 173) 57 = .ok (.iconst (-1), 1) := by decide +kernel
theorem D173_58 : BR 173 58 (.if_icmp .ne 5) (5) 63 := ⟨by decide +kernel, by decide, by decide⟩
theorem D173_63 : decode (mB 173) 63 = .ok (.iload 4, 2) := by decide +kernel
theorem D173_65 : BR 173 65 (.ifCond .ne 17) (17) 82 := ⟨by decide +kernel, by decide, by decide⟩
theorem D173_82 : decode (mB 173) 82 = .ok (.aload_n 0, 1) := by decide +kernel
theorem D173_83 : GF 173 83 9 7 2 := ⟨55, true, by decide +kernel, by decide +kernel⟩
theorem D173_86 : decode (mB 173) 86 = .ok (.iload 5, 2) := by decide +kernel
theorem D173_88 : CS 173 88 164 0 := ⟨.invokevirtual 303, by decide +kernel, by decide +kernel, by decide +kernel, by decide⟩
theorem D173_91 : decode (mB 173) 91 = .ok (.ireturn, 1) := by decide +kernel
theorem D173_68 : decode (mB 173) 68 = .ok (.aload_n 0, 1) := by decide +kernel
theorem D173_69 : GF 173 69 9 7 2 := ⟨55, true, by decide +kernel, by decide +kernel⟩
theorem D173_72 : decode (mB 173) 72 = .ok (.iload 5, 2) := by decide +kernel
theorem D173_74 : decode (mB 173) 74 = .ok (.iload_n 2, 1) := by decide +kernel
theorem D173_75 : decode (mB 173) 75 = .ok (.iload_n 3, 1) := by decide +kernel
theorem D173_76 : CS 173 76 169 0 := ⟨.invokevirtual 300, by decide +kernel, by decide +kernel, by decide +kernel, by decide⟩
theorem D173_79 : BR 173 79 (.goto 12) (12) 91 := ⟨by decide +kernel, by decide, by decide⟩
theorem D173_61 : decode (mB 173) 61 = .ok (.iconst (-1), 1) := by decide +kernel
theorem D173_62 : decode (mB 173) 62 = .ok (.ireturn, 1) := by decide +kernel
theorem LC_longest_e (d : Nat) (a0 : Nat) (x1 : Int32) (x2 : Int32) (x3 : Int32) (x4 : Int32) (m : eM) (h_a0 : kd a0 = 9) : LC_longest (d + 1) a0 x1 x2 x3 x4 m = bR (gR m a0 2) fun r1 => gd r1 6 (bR (gR m r1 0) fun r3 => gd r3 4 (bI (Pa_isThere d r3 x1 m) fun v6 m5 => if v6 = 0 then (yI (-1 : Int32) m5) else (bI (LC_isSpan d x2 x3 m5) fun v8 m7 => if v8 = 0 then (yI (-1 : Int32) m7) else (bI (LC_isWhat d x4 m7) fun v10 m9 => if ¬ v10 = 0 then (bR (gR m9 a0 7) fun r11 => bR (gR m9 a0 2) fun r12 => gd r11 1 (bV (Co_follow d r11 r12 x1 m9) fun m14 => bR (gR m14 a0 7) fun r15 => gd r15 1 (bI (Co_longestPart d r15 x2 x3 m14) fun v18 m17 => if ¬ v18 = (-1 : Int32) then (if ¬ x4 = 0 then (bR (gR m17 a0 7) fun r19 => gd r19 1 (bI (Co_whom d r19 v18 m17) fun v22 m21 => yI v22 m21)) else (bR (gR m17 a0 7) fun r23 => gd r23 1 (bI (Co_minutesOf d r23 v18 x2 x3 m17) fun v26 m25 => yI v26 m25))) else (yI (-1 : Int32) m17)))) else (yI (-1 : Int32) m9))))) := by
  unfold LC_longest
  refine (x_aload1 D173_0 rfl).trans ?_
  refine ((x_getR D173_1).trans (gd_t h_a0)).trans (bR_c fun r1 => ?_)
  refine (x_getR D173_4).trans (gd_c fun h2 => bR_c fun r3 => ?_)
  refine (x_iload1 D173_7 rfl).trans ?_
  refine (x_cg D173_8 M89 rfl rfl).trans (gd_c fun h4 => ?_)
  refine (x_cI D173_8 M89 (fun z => by cases z) (I89 _ _) rfl rfl (ok_i M89 (I89 _ _) rfl rfl h4)).trans (bI_c fun v6 m5 => ?_)
  refine (x_ifeq D173_11).trans (i_c ?_ ?_)
  · refine (x_iconst D173_30 (k := -1) (by decide)).trans ?_
    exact x_iret D173_31 M173.2.2.1
  · refine (x_iload1 D173_14 rfl).trans ?_
    refine (x_iload1 D173_15 rfl).trans ?_
    refine (x_cI D173_16 M139 (fun z => by cases z) (I139 _ _) rfl rfl (ok_s M139 (I139 _ _) rfl rfl)).trans (bI_c fun v8 m7 => ?_)
    refine (x_ifeq D173_19).trans (i_c ?_ ?_)
    · refine (x_iconst D173_30 (k := -1) (by decide)).trans ?_
      exact x_iret D173_31 M173.2.2.1
    · refine (x_iload2 D173_22 rfl).trans ?_
      refine (x_cI D173_24 M125 (fun z => by cases z) (I125 _) rfl rfl (ok_s M125 (I125 _) rfl rfl)).trans (bI_c fun v10 m9 => ?_)
      refine (x_ifne D173_27).trans (i_c ?_ ?_)
      · refine (x_aload1 D173_32 rfl).trans ?_
        refine ((x_getR D173_33).trans (gd_t h_a0)).trans (bR_c fun r11 => ?_)
        refine (x_aload1 D173_36 rfl).trans ?_
        refine ((x_getR D173_37).trans (gd_t h_a0)).trans (bR_c fun r12 => ?_)
        refine (x_iload1 D173_40 rfl).trans ?_
        refine (x_cg D173_41 M162 rfl rfl).trans (gd_c fun h13 => ?_)
        refine (x_cV D173_41 M162  (I162 _ _ _) rfl rfl (ok_i M162 (I162 _ _ _) rfl rfl h13)).trans (bV_c fun m14 => ?_)
        refine (x_aload1 D173_44 rfl).trans ?_
        refine ((x_getR D173_45).trans (gd_t h_a0)).trans (bR_c fun r15 => ?_)
        refine (x_iload1 D173_48 rfl).trans ?_
        refine (x_iload1 D173_49 rfl).trans ?_
        refine (x_cg D173_50 M174 rfl rfl).trans (gd_c fun h16 => ?_)
        refine (x_cI D173_50 M174 (fun z => by cases z) (I174 _ _ _) rfl rfl (ok_i M174 (I174 _ _ _) rfl rfl h16)).trans (bI_c fun v18 m17 => ?_)
        refine (x_istore2 D173_53 (ls' := [.ref a0, .int x1, .int x2, .int x3, .int x4, .int v18]) rfl rfl).trans ?_
        refine (x_iload2 D173_55 rfl).trans ?_
        refine (x_iconst D173_57 (k := -1) (by decide)).trans ?_
        refine (x_cne D173_58).trans (i_c ?_ ?_)
        · refine (x_iload2 D173_63 rfl).trans ?_
          refine (x_ifne D173_65).trans (i_c ?_ ?_)
          · refine (x_aload1 D173_82 rfl).trans ?_
            refine ((x_getR D173_83).trans (gd_t h_a0)).trans (bR_c fun r19 => ?_)
            refine (x_iload2 D173_86 rfl).trans ?_
            refine (x_cg D173_88 M164 rfl rfl).trans (gd_c fun h20 => ?_)
            refine (x_cI D173_88 M164 (fun z => by cases z) (I164 _ _) rfl rfl (ok_i M164 (I164 _ _) rfl rfl h20)).trans (bI_c fun v22 m21 => ?_)
            exact x_iret D173_91 M173.2.2.1
          · refine (x_aload1 D173_68 rfl).trans ?_
            refine ((x_getR D173_69).trans (gd_t h_a0)).trans (bR_c fun r23 => ?_)
            refine (x_iload2 D173_72 rfl).trans ?_
            refine (x_iload1 D173_74 rfl).trans ?_
            refine (x_iload1 D173_75 rfl).trans ?_
            refine (x_cg D173_76 M169 rfl rfl).trans (gd_c fun h24 => ?_)
            refine (x_cI D173_76 M169 (fun z => by cases z) (I169 _ _ _ _) rfl rfl (ok_i M169 (I169 _ _ _ _) rfl rfl h24)).trans (bI_c fun v26 m25 => ?_)
            refine (x_goto D173_79).trans ?_
            exact x_iret D173_91 M173.2.2.1
        · refine (x_iconst D173_61 (k := -1) (by decide)).trans ?_
          exact x_iret D173_62 M173.2.2.1
      · refine (x_iconst D173_30 (k := -1) (by decide)).trans ?_
        exact x_iret D173_31 M173.2.2.1
theorem D175_0 : decode (mB 175) 0 = .ok (.aload_n 0, 1) := by decide +kernel
theorem D175_1 : GF 175 1 9 2 2 := ⟨26, true, by decide +kernel, by decide +kernel⟩
theorem D175_4 : GF 175 4 6 0 2 := ⟨124, false, by decide +kernel, by decide +kernel⟩
theorem D175_7 : decode (mB 175) 7 = .ok (.iconst 1, 1) := by decide +kernel
theorem D175_8 : CS 175 8 89 0 := ⟨.invokevirtual 136, by decide +kernel, by decide +kernel, by decide +kernel, by decide⟩
theorem D175_11 : BR 175 11 (.ifCond .eq 11) (11) 22 := ⟨by decide +kernel, by decide, by decide⟩
theorem D175_22 : decode (mB 175) 22 = .ok (.iconst (-1), 1) := by decide +kernel
theorem D175_23 : decode (mB 175) 23 = .ok (.ireturn, 1) := by decide +kernel
theorem D175_14 : decode (mB 175) 14 = .ok (.iload_n 1, 1) := by decide +kernel
theorem D175_15 : decode (mB 175) 15 = .ok (.iload_n 2, 1) := by decide +kernel
theorem D175_16 : CS 175 16 139 2 := ⟨.invokestatic 286, by decide +kernel, by decide +kernel, by decide +kernel, by decide⟩
theorem D175_19 : BR 175 19 (.ifCond .ne 5) (5) 24 := ⟨by decide +kernel, by decide, by decide⟩
theorem D175_24 : decode (mB 175) 24 = .ok (.aload_n 0, 1) := by decide +kernel
theorem D175_25 : GF 175 25 9 7 2 := ⟨55, true, by decide +kernel, by decide +kernel⟩
theorem D175_28 : decode (mB 175) 28 = .ok (.aload_n 0, 1) := by decide +kernel
theorem D175_29 : GF 175 29 9 2 2 := ⟨26, true, by decide +kernel, by decide +kernel⟩
theorem D175_32 : decode (mB 175) 32 = .ok (.iconst 0, 1) := by decide +kernel
theorem D175_33 : CS 175 33 162 0 := ⟨.invokevirtual 276, by decide +kernel, by decide +kernel, by decide +kernel, by decide⟩
theorem D175_36 : decode (mB 175) 36 = .ok (.aload_n 0, 1) := by decide +kernel
theorem D175_37 : GF 175 37 9 8 2 := ⟨59, true, by decide +kernel, by decide +kernel⟩
theorem D175_40 : decode (mB 175) 40 = .ok (.aload_n 0, 1) := by decide +kernel
theorem D175_41 : GF 175 41 9 2 2 := ⟨26, true, by decide +kernel, by decide +kernel⟩
theorem D175_44 : decode (mB 175) 44 = .ok (.iconst 1, 1) := by decide +kernel
theorem D175_45 : CS 175 45 162 0 := ⟨.invokevirtual 276, by decide +kernel, by decide +kernel, by decide +kernel, by decide⟩
theorem D175_48 : decode (mB 175) 48 = .ok (.aload_n 0, 1) := by decide +kernel
theorem D175_49 : GF 175 49 9 7 2 := ⟨55, true, by decide +kernel, by decide +kernel⟩
theorem D175_52 : decode (mB 175) 52 = .ok (.aload_n 0, 1) := by decide +kernel
theorem D175_53 : GF 175 53 9 8 2 := ⟨59, true, by decide +kernel, by decide +kernel⟩
theorem D175_56 : decode (mB 175) 56 = .ok (.iload_n 1, 1) := by decide +kernel
theorem D175_57 : decode (mB 175) 57 = .ok (.iload_n 2, 1) := by decide +kernel
theorem D175_58 : CS 175 58 176 0 := ⟨.invokevirtual 306, by decide +kernel, by decide +kernel, by decide +kernel, by decide⟩
theorem D175_61 : decode (mB 175) 61 = .ok (.ireturn, 1) := by decide +kernel
theorem LC_differ_e (d : Nat) (a0 : Nat) (x1 : Int32) (x2 : Int32) (m : eM) (h_a0 : kd a0 = 9) : LC_differ (d + 1) a0 x1 x2 m = bR (gR m a0 2) fun r1 => gd r1 6 (bR (gR m r1 0) fun r3 => gd r3 4 (bI (Pa_isThere d r3 (1 : Int32) m) fun v6 m5 => if v6 = 0 then (yI (-1 : Int32) m5) else (bI (LC_isSpan d x1 x2 m5) fun v8 m7 => if ¬ v8 = 0 then (bR (gR m7 a0 7) fun r9 => bR (gR m7 a0 2) fun r10 => gd r9 1 (bV (Co_follow d r9 r10 (0 : Int32) m7) fun m12 => bR (gR m12 a0 8) fun r13 => bR (gR m12 a0 2) fun r14 => gd r13 1 (bV (Co_follow d r13 r14 (1 : Int32) m12) fun m16 => bR (gR m16 a0 7) fun r17 => bR (gR m16 a0 8) fun r18 => gd r17 1 (bI (Co_minutesUnlike d r17 r18 x1 x2 m16) fun v21 m20 => yI v21 m20)))) else (yI (-1 : Int32) m7)))) := by
  unfold LC_differ
  refine (x_aload1 D175_0 rfl).trans ?_
  refine ((x_getR D175_1).trans (gd_t h_a0)).trans (bR_c fun r1 => ?_)
  refine (x_getR D175_4).trans (gd_c fun h2 => bR_c fun r3 => ?_)
  refine (x_iconst D175_7 (k := 1) (by decide)).trans ?_
  refine (x_cg D175_8 M89 rfl rfl).trans (gd_c fun h4 => ?_)
  refine (x_cI D175_8 M89 (fun z => by cases z) (I89 _ _) rfl rfl (ok_i M89 (I89 _ _) rfl rfl h4)).trans (bI_c fun v6 m5 => ?_)
  refine (x_ifeq D175_11).trans (i_c ?_ ?_)
  · refine (x_iconst D175_22 (k := -1) (by decide)).trans ?_
    exact x_iret D175_23 M175.2.2.1
  · refine (x_iload1 D175_14 rfl).trans ?_
    refine (x_iload1 D175_15 rfl).trans ?_
    refine (x_cI D175_16 M139 (fun z => by cases z) (I139 _ _) rfl rfl (ok_s M139 (I139 _ _) rfl rfl)).trans (bI_c fun v8 m7 => ?_)
    refine (x_ifne D175_19).trans (i_c ?_ ?_)
    · refine (x_aload1 D175_24 rfl).trans ?_
      refine ((x_getR D175_25).trans (gd_t h_a0)).trans (bR_c fun r9 => ?_)
      refine (x_aload1 D175_28 rfl).trans ?_
      refine ((x_getR D175_29).trans (gd_t h_a0)).trans (bR_c fun r10 => ?_)
      refine (x_iconst D175_32 (k := 0) (by decide)).trans ?_
      refine (x_cg D175_33 M162 rfl rfl).trans (gd_c fun h11 => ?_)
      refine (x_cV D175_33 M162  (I162 _ _ _) rfl rfl (ok_i M162 (I162 _ _ _) rfl rfl h11)).trans (bV_c fun m12 => ?_)
      refine (x_aload1 D175_36 rfl).trans ?_
      refine ((x_getR D175_37).trans (gd_t h_a0)).trans (bR_c fun r13 => ?_)
      refine (x_aload1 D175_40 rfl).trans ?_
      refine ((x_getR D175_41).trans (gd_t h_a0)).trans (bR_c fun r14 => ?_)
      refine (x_iconst D175_44 (k := 1) (by decide)).trans ?_
      refine (x_cg D175_45 M162 rfl rfl).trans (gd_c fun h15 => ?_)
      refine (x_cV D175_45 M162  (I162 _ _ _) rfl rfl (ok_i M162 (I162 _ _ _) rfl rfl h15)).trans (bV_c fun m16 => ?_)
      refine (x_aload1 D175_48 rfl).trans ?_
      refine ((x_getR D175_49).trans (gd_t h_a0)).trans (bR_c fun r17 => ?_)
      refine (x_aload1 D175_52 rfl).trans ?_
      refine ((x_getR D175_53).trans (gd_t h_a0)).trans (bR_c fun r18 => ?_)
      refine (x_iload1 D175_56 rfl).trans ?_
      refine (x_iload1 D175_57 rfl).trans ?_
      refine (x_cg D175_58 M176 rfl rfl).trans (gd_c fun h19 => ?_)
      refine (x_cI D175_58 M176 (fun z => by cases z) (I176 _ _ _ _) rfl rfl (ok_i M176 (I176 _ _ _ _) rfl rfl h19)).trans (bI_c fun v21 m20 => ?_)
      exact x_iret D175_61 M175.2.2.1
    · refine (x_iconst D175_22 (k := -1) (by decide)).trans ?_
      exact x_iret D175_23 M175.2.2.1
theorem D177_0 : decode (mB 177) 0 = .ok (.aload_n 0, 1) := by decide +kernel
theorem D177_1 : GF 177 1 9 2 2 := ⟨26, true, by decide +kernel, by decide +kernel⟩
theorem D177_4 : GF 177 4 6 0 2 := ⟨124, false, by decide +kernel, by decide +kernel⟩
theorem D177_7 : decode (mB 177) 7 = .ok (.astore_n 3, 1) := by decide +kernel
theorem D177_8 : decode (mB 177) 8 = .ok (.aload_n 3, 1) := by decide +kernel
theorem D177_9 : decode (mB 177) 9 = .ok (.iload_n 1, 1) := by decide +kernel
theorem D177_10 : CS 177 10 89 0 := ⟨.invokevirtual 136, by decide +kernel, by decide +kernel, by decide +kernel, by decide⟩
theorem D177_13 : BR 177 13 (.ifCond .eq 16) (16) 29 := ⟨by decide +kernel, by decide, by decide⟩
theorem D177_29 : decode (mB 177) 29 = .ok (.iconst (-1), 1) := by decide +kernel
theorem D177_30 : decode (mB 177) 30 = .ok (.ireturn, 1) := by decide +kernel
theorem D177_16 : decode (mB 177) 16 = .ok (.iload_n 2, 1) := by decide +kernel
theorem D177_17 : decode (mB 177) 17 = .ok (.iconst (-1), 1) := by decide +kernel
theorem D177_18 : BR 177 18 (.if_icmp .eq 13) (13) 31 := ⟨by decide +kernel, by decide, by decide⟩
theorem D177_31 : decode (mB 177) 31 = .ok (.iconst 0, 1) := by decide +kernel
theorem D177_32 : decode (mB 177) 32 = .ok (.istore 4, 2) := by decide +kernel
theorem D177_21 : decode (mB 177) 21 = .ok (.aload_n 3, 1) := by decide +kernel
theorem D177_22 : decode (mB 177) 22 = .ok (.iload_n 2, 1) := by decide +kernel
theorem D177_23 : CS 177 23 68 0 := ⟨.invokevirtual 283, by decide +kernel, by decide +kernel, by decide +kernel, by decide⟩
theorem D177_26 : BR 177 26 (.ifCond .ne 5) (5) 31 := ⟨by decide +kernel, by decide, by decide⟩
theorem D177_34 : decode (mB 177) 34 = .ok (.iload 4, 2) := by decide +kernel
theorem D177_36 : decode (mB 177) 36 = .ok (.aload_n 3, 1) := by decide +kernel
theorem D177_37 : CS 177 37 178 0 := ⟨.invokevirtual 310, by decide +kernel, by decide +kernel, by decide +kernel, by decide⟩
theorem D177_40 : BR 177 40 (.if_icmp .ge 47) (47) 87 := ⟨by decide +kernel, by decide, by decide⟩
theorem D177_87 : decode (mB 177) 87 = .ok (.iconst (-1), 1) := by decide +kernel
theorem D177_88 : decode (mB 177) 88 = .ok (.ireturn, 1) := by decide +kernel
theorem D177_43 : decode (mB 177) 43 = .ok (.iload 4, 2) := by decide +kernel
theorem D177_45 : decode (mB 177) 45 = .ok (.iload_n 2, 1) := by decide +kernel
theorem D177_46 : BR 177 46 (.if_icmp .ne 7) (7) 53 := ⟨by decide +kernel, by decide, by decide⟩
theorem D177_53 : decode (mB 177) 53 = .ok (.aload_n 0, 1) := by decide +kernel
theorem D177_54 : decode (mB 177) 54 = .ok (.iload 4, 2) := by decide +kernel
theorem D177_56 : decode (mB 177) 56 = .ok (.aload_n 3, 1) := by decide +kernel
theorem D177_57 : decode (mB 177) 57 = .ok (.iload_n 1, 1) := by decide +kernel
theorem D177_58 : CS 177 58 104 0 := ⟨.invokevirtual 313, by decide +kernel, by decide +kernel, by decide +kernel, by decide⟩
theorem D177_61 : CS 177 61 179 0 := ⟨.invokevirtual 316, by decide +kernel, by decide +kernel, by decide +kernel, by decide⟩
theorem D177_64 : decode (mB 177) 64 = .ok (.istore 5, 2) := by decide +kernel
theorem D177_66 : decode (mB 177) 66 = .ok (.iload 5, 2) := by decide +kernel
theorem D177_68 : decode (mB 177) 68 = .ok (.iconst (-1), 1) := by decide +kernel
theorem D177_69 : BR 177 69 (.if_icmp .eq 12) (12) 81 := ⟨by decide +kernel, by decide, by decide⟩
theorem D177_81 : decode (mB 177) 81 = .ok (.iinc 4 1, 3) := by decide +kernel
theorem D177_84 : BR 177 84 (.goto (-50)) (-50) 34 := ⟨by decide +kernel, by decide, by decide⟩
theorem D177_72 : decode (mB 177) 72 = .ok (.iload 4, 2) := by decide +kernel
theorem D177_74 : decode (mB 177) 74 = .ok (.bipush 12, 2) := by decide +kernel
theorem D177_76 : decode (mB 177) 76 = .ok (.imul, 1) := by decide +kernel
theorem D177_77 : decode (mB 177) 77 = .ok (.iload 5, 2) := by decide +kernel
theorem D177_79 : decode (mB 177) 79 = .ok (.iadd, 1) := by decide +kernel
theorem D177_80 : decode (mB 177) 80 = .ok (.ireturn, 1) := by decide +kernel
theorem D177_49 : decode (mB 177) 49 = .ok (.iconst (-1), 1) := by decide +kernel
theorem D177_50 : BR 177 50 (.goto 14) (14) 64 := ⟨by decide +kernel, by decide, by decide⟩
theorem LC_move_e (d : Nat) (a0 : Nat) (x1 : Int32) (x2 : Int32) (m : eM) (h_a0 : kd a0 = 9) : LC_move (d + 1) a0 x1 x2 m = bR (gR m a0 2) fun r1 => gd r1 6 (bR (gR m r1 0) fun r3 => gd r3 4 (bI (Pa_isThere d r3 x1 m) fun v6 m5 => if v6 = 0 then (yI (-1 : Int32) m5) else (if x2 = (-1 : Int32) then (LC_move_34 (d + 1) a0 x1 x2 r3 (0 : Int32) eU m5) else (bI (Pa_isPerson d r3 x2 m5) fun v8 m7 => if ¬ v8 = 0 then (LC_move_34 (d + 1) a0 x1 x2 r3 (0 : Int32) eU m7) else (yI (-1 : Int32) m7))))) := by
  unfold LC_move
  refine (x_aload1 D177_0 rfl).trans ?_
  refine ((x_getR D177_1).trans (gd_t h_a0)).trans (bR_c fun r1 => ?_)
  refine (x_getR D177_4).trans (gd_c fun h2 => bR_c fun r3 => ?_)
  refine (x_astore1 D177_7 (ls' := [.ref a0, .int x1, .int x2, .ref r3, eU, eU]) rfl rfl).trans ?_
  refine (x_aload1 D177_8 rfl).trans ?_
  refine (x_iload1 D177_9 rfl).trans ?_
  refine (x_cg D177_10 M89 rfl rfl).trans (gd_c fun h4 => ?_)
  refine (x_cI D177_10 M89 (fun z => by cases z) (I89 _ _) rfl rfl (ok_i M89 (I89 _ _) rfl rfl h4)).trans (bI_c fun v6 m5 => ?_)
  refine (x_ifeq D177_13).trans (i_c ?_ ?_)
  · refine (x_iconst D177_29 (k := -1) (by decide)).trans ?_
    exact x_iret D177_30 M177.2.2.1
  · refine (x_iload1 D177_16 rfl).trans ?_
    refine (x_iconst D177_17 (k := -1) (by decide)).trans ?_
    refine (x_ceq D177_18).trans (i_c ?_ ?_)
    · refine (x_iconst D177_31 (k := 0) (by decide)).trans ?_
      refine (x_istore2 D177_32 (ls' := [.ref a0, .int x1, .int x2, .ref r3, .int (0 : Int32), eU]) rfl rfl).trans ?_
      rfl
    · refine (x_aload1 D177_21 rfl).trans ?_
      refine (x_iload1 D177_22 rfl).trans ?_
      refine (x_cI D177_23 M68 (fun z => by cases z) (I68 _ _) rfl rfl (ok_i M68 (I68 _ _) rfl rfl h4)).trans (bI_c fun v8 m7 => ?_)
      refine (x_ifne D177_26).trans (i_c ?_ ?_)
      · refine (x_iconst D177_31 (k := 0) (by decide)).trans ?_
        refine (x_istore2 D177_32 (ls' := [.ref a0, .int x1, .int x2, .ref r3, .int (0 : Int32), eU]) rfl rfl).trans ?_
        rfl
      · refine (x_iconst D177_29 (k := -1) (by decide)).trans ?_
        exact x_iret D177_30 M177.2.2.1
theorem LC_move_34_e (d : Nat) (a0 : Nat) (x1 : Int32) (x2 : Int32) (a3 : Nat) (x4 : Int32) (w5 : Value) (m : eM) (h_a0 : kd a0 = 9) (h_a3 : kd a3 = 4) : LC_move_34 (d + 1) a0 x1 x2 a3 x4 w5 m = bI (Pa_people d a3 m) fun v2 m1 => if v2 ≤ x4 then (yI (-1 : Int32) m1) else (if ¬ x4 = x2 then (bI (Pa_law d a3 x1 m1) fun v4 m3 => bI (LC_firstLie d a0 x4 v4 m3) fun v6 m5 => if v6 = (-1 : Int32) then (LC_move_34 (d + 1) a0 x1 x2 a3 (x4 + (1 : Int32)) (.int v6) m5) else (yI ((x4 * (12 : Int32)) + v6) m5)) else (LC_move_34 (d + 1) a0 x1 x2 a3 (x4 + (1 : Int32)) (.int (-1 : Int32)) m1)) := by
  unfold LC_move_34
  refine (x_iload2 D177_34 rfl).trans ?_
  refine (x_aload1 D177_36 rfl).trans ?_
  refine (x_cI D177_37 M178 (fun z => by cases z) (I178 _) rfl rfl (ok_i M178 (I178 _) rfl rfl h_a3)).trans (bI_c fun v2 m1 => ?_)
  refine (x_cge D177_40).trans (i_c ?_ ?_)
  · refine (x_iconst D177_87 (k := -1) (by decide)).trans ?_
    exact x_iret D177_88 M177.2.2.1
  · refine (x_iload2 D177_43 rfl).trans ?_
    refine (x_iload1 D177_45 rfl).trans ?_
    refine (x_cne D177_46).trans (i_c ?_ ?_)
    · refine (x_aload1 D177_53 rfl).trans ?_
      refine (x_iload2 D177_54 rfl).trans ?_
      refine (x_aload1 D177_56 rfl).trans ?_
      refine (x_iload1 D177_57 rfl).trans ?_
      refine (x_cI D177_58 M104 (fun z => by cases z) (I104 _ _) rfl rfl (ok_i M104 (I104 _ _) rfl rfl h_a3)).trans (bI_c fun v4 m3 => ?_)
      refine (x_cI D177_61 M179 (fun z => by cases z) (I179 _ _ _) rfl rfl (ok_i M179 (I179 _ _ _) rfl rfl h_a0)).trans (bI_c fun v6 m5 => ?_)
      refine (x_istore2 D177_64 (ls' := [.ref a0, .int x1, .int x2, .ref a3, .int x4, .int v6]) rfl rfl).trans ?_
      refine (x_iload2 D177_66 rfl).trans ?_
      refine (x_iconst D177_68 (k := -1) (by decide)).trans ?_
      refine (x_ceq D177_69).trans (i_c ?_ ?_)
      · refine (x_iinc D177_81 rfl (k := 1) (by decide) (ls' := [.ref a0, .int x1, .int x2, .ref a3, .int (x4 + (1 : Int32)), .int v6]) rfl).trans ?_
        refine (x_goto D177_84).trans ?_
        rfl
      · refine (x_iload2 D177_72 rfl).trans ?_
        refine (x_bipush D177_74 (k := 12) (by decide)).trans ?_
        refine (x_imul D177_76).trans ?_
        refine (x_iload2 D177_77 rfl).trans ?_
        refine (x_iadd D177_79).trans ?_
        exact x_iret D177_80 M177.2.2.1
    · refine (x_iconst D177_49 (k := -1) (by decide)).trans ?_
      refine (x_goto D177_50).trans ?_
      refine (x_istore2 D177_64 (ls' := [.ref a0, .int x1, .int x2, .ref a3, .int x4, .int (-1 : Int32)]) rfl rfl).trans ?_
      refine (x_iload2 D177_66 rfl).trans ?_
      refine (x_iconst D177_68 (k := -1) (by decide)).trans ?_
      refine ((x_ceq D177_69).trans (if_pos (by decide))).trans ?_
      refine (x_iinc D177_81 rfl (k := 1) (by decide) (ls' := [.ref a0, .int x1, .int x2, .ref a3, .int (x4 + (1 : Int32)), .int (-1 : Int32)]) rfl).trans ?_
      refine (x_goto D177_84).trans ?_
      rfl
theorem D179_0 : decode (mB 179) 0 = .ok (.iconst 0, 1) := by decide +kernel
theorem D179_1 : decode (mB 179) 1 = .ok (.istore_n 3, 1) := by decide +kernel
theorem D179_2 : decode (mB 179) 2 = .ok (.iload_n 3, 1) := by decide +kernel
theorem D179_3 : decode (mB 179) 3 = .ok (.aload_n 0, 1) := by decide +kernel
theorem D179_4 : GF 179 4 9 2 2 := ⟨26, true, by decide +kernel, by decide +kernel⟩
theorem D179_7 : GF 179 7 6 0 2 := ⟨124, false, by decide +kernel, by decide +kernel⟩
theorem D179_10 : CS 179 10 78 0 := ⟨.invokevirtual 378, by decide +kernel, by decide +kernel, by decide +kernel, by decide⟩
theorem D179_13 : decode (mB 179) 13 = .ok (.iconst 2, 1) := by decide +kernel
theorem D179_14 : decode (mB 179) 14 = .ok (.imul, 1) := by decide +kernel
theorem D179_15 : BR 179 15 (.if_icmp .ge 64) (64) 79 := ⟨by decide +kernel, by decide, by decide⟩
theorem D179_79 : decode (mB 179) 79 = .ok (.iconst (-1), 1) := by decide +kernel
theorem D179_80 : decode (mB 179) 80 = .ok (.ireturn, 1) := by decide +kernel
theorem D179_18 : decode (mB 179) 18 = .ok (.aload_n 0, 1) := by decide +kernel
theorem D179_19 : GF 179 19 9 2 2 := ⟨26, true, by decide +kernel, by decide +kernel⟩
theorem D179_22 : GF 179 22 6 0 2 := ⟨124, false, by decide +kernel, by decide +kernel⟩
theorem D179_25 : decode (mB 179) 25 = .ok (.iload_n 3, 1) := by decide +kernel
theorem D179_26 : decode (mB 179) 26 = .ok (.iconst 1, 1) := by decide +kernel
theorem D179_27 : decode (mB 179) 27 = .ok (.ishr, 1) := by decide +kernel
theorem D179_28 : decode (mB 179) 28 = .ok (.iload_n 3, 1) := by decide +kernel
theorem D179_29 : decode (mB 179) 29 = .ok (.iconst 1, 1) := by decide +kernel
theorem D179_30 : decode (mB 179) 30 = .ok (.iand, 1) := by decide +kernel
theorem D179_31 : BR 179 31 (.ifCond .ne 7) (7) 38 := ⟨by decide +kernel, by decide, by decide⟩
theorem D179_38 : decode (mB 179) 38 = .ok (.iconst 0, 1) := by decide +kernel
theorem D179_34 : decode (mB 179) 34 = .ok (.iconst 1, 1) := by decide +kernel
theorem D179_35 : BR 179 35 (.goto 4) (4) 39 := ⟨by decide +kernel, by decide, by decide⟩
theorem D179_39 : CS 179 39 146 0 := ⟨.invokevirtual 247, by decide +kernel, by decide +kernel, by decide +kernel, by decide⟩
theorem D179_42 : decode (mB 179) 42 = .ok (.lstore 4, 2) := by decide +kernel
theorem D179_44 : decode (mB 179) 44 = .ok (.aload_n 0, 1) := by decide +kernel
theorem D179_45 : GF 179 45 9 2 2 := ⟨26, true, by decide +kernel, by decide +kernel⟩
theorem D179_48 : GF 179 48 6 0 2 := ⟨124, false, by decide +kernel, by decide +kernel⟩
theorem D179_51 : decode (mB 179) 51 = .ok (.lload 4, 2) := by decide +kernel
theorem D179_53 : decode (mB 179) 53 = .ok (.iload_n 2, 1) := by decide +kernel
theorem D179_54 : decode (mB 179) 54 = .ok (.iload_n 1, 1) := by decide +kernel
theorem D179_55 : CS 179 55 80 0 := ⟨.invokevirtual 412, by decide +kernel, by decide +kernel, by decide +kernel, by decide⟩
theorem D179_58 : decode (mB 179) 58 = .ok (.aload_n 0, 1) := by decide +kernel
theorem D179_59 : GF 179 59 9 2 2 := ⟨26, true, by decide +kernel, by decide +kernel⟩
theorem D179_62 : GF 179 62 6 5 0 := ⟨132, false, by decide +kernel, by decide +kernel⟩
theorem D179_65 : CS 179 65 96 2 := ⟨.invokestatic 163, by decide +kernel, by decide +kernel, by decide +kernel, by decide⟩
theorem D179_68 : BR 179 68 (.ifCond .eq 5) (5) 73 := ⟨by decide +kernel, by decide, by decide⟩
theorem D179_73 : decode (mB 179) 73 = .ok (.iinc 3 1, 3) := by decide +kernel
theorem D179_76 : BR 179 76 (.goto (-74)) (-74) 2 := ⟨by decide +kernel, by decide, by decide⟩
theorem D179_71 : decode (mB 179) 71 = .ok (.iload_n 3, 1) := by decide +kernel
theorem D179_72 : decode (mB 179) 72 = .ok (.ireturn, 1) := by decide +kernel
theorem LC_firstLie_e (d : Nat) (a0 : Nat) (x1 : Int32) (x2 : Int32) (m : eM) (h_a0 : kd a0 = 9) : LC_firstLie (d + 1) a0 x1 x2 m = LC_firstLie_2 (d + 1) a0 x1 x2 (0 : Int32) eU m := by
  unfold LC_firstLie
  refine (x_iconst D179_0 (k := 0) (by decide)).trans ?_
  refine (x_istore1 D179_1 (ls' := [.ref a0, .int x1, .int x2, .int (0 : Int32), eU, eU]) rfl rfl).trans ?_
  rfl
theorem LC_firstLie_2_e (d : Nat) (a0 : Nat) (x1 : Int32) (x2 : Int32) (x3 : Int32) (w4 : Value) (m : eM) (h_a0 : kd a0 = 9) : LC_firstLie_2 (d + 1) a0 x1 x2 x3 w4 m = bR (gR m a0 2) fun r1 => gd r1 6 (bR (gR m r1 0) fun r3 => gd r3 4 (bI (Pa_facts d r3 m) fun v6 m5 => if (v6 * (2 : Int32)) ≤ x3 then (yI (-1 : Int32) m5) else (bR (gR m5 a0 2) fun r7 => gd r7 6 (bR (gR m5 r7 0) fun r9 => if ¬ (x3 &&& (1 : Int32)) = 0 then (LC_firstLie_39 (d + 1) a0 x1 x2 x3 w4 r9 (x3 >>> ((1 : Int32) &&& 31)) (0 : Int32) m5) else (LC_firstLie_39 (d + 1) a0 x1 x2 x3 w4 r9 (x3 >>> ((1 : Int32) &&& 31)) (1 : Int32) m5))))) := by
  unfold LC_firstLie_2
  refine (x_iload1 D179_2 rfl).trans ?_
  refine (x_aload1 D179_3 rfl).trans ?_
  refine ((x_getR D179_4).trans (gd_t h_a0)).trans (bR_c fun r1 => ?_)
  refine (x_getR D179_7).trans (gd_c fun h2 => bR_c fun r3 => ?_)
  refine (x_cg D179_10 M78 rfl rfl).trans (gd_c fun h4 => ?_)
  refine (x_cI D179_10 M78 (fun z => by cases z) (I78 _) rfl rfl (ok_i M78 (I78 _) rfl rfl h4)).trans (bI_c fun v6 m5 => ?_)
  refine (x_iconst D179_13 (k := 2) (by decide)).trans ?_
  refine (x_imul D179_14).trans ?_
  refine (x_cge D179_15).trans (i_c ?_ ?_)
  · refine (x_iconst D179_79 (k := -1) (by decide)).trans ?_
    exact x_iret D179_80 M179.2.2.1
  · refine (x_aload1 D179_18 rfl).trans ?_
    refine ((x_getR D179_19).trans (gd_t h_a0)).trans (bR_c fun r7 => ?_)
    refine (x_getR D179_22).trans (gd_c fun h8 => bR_c fun r9 => ?_)
    refine (x_iload1 D179_25 rfl).trans ?_
    refine (x_iconst D179_26 (k := 1) (by decide)).trans ?_
    refine (x_ishr D179_27).trans ?_
    refine (x_iload1 D179_28 rfl).trans ?_
    refine (x_iconst D179_29 (k := 1) (by decide)).trans ?_
    refine (x_iand D179_30).trans ?_
    refine (x_ifne D179_31).trans (i_c ?_ ?_)
    · refine (x_iconst D179_38 (k := 0) (by decide)).trans ?_
      rfl
    · refine (x_iconst D179_34 (k := 1) (by decide)).trans ?_
      refine (x_goto D179_35).trans ?_
      rfl
theorem LC_firstLie_39_e (d : Nat) (a0 : Nat) (x1 : Int32) (x2 : Int32) (x3 : Int32) (w4 : Value) (b0 : Nat) (p1 : Int32) (p2 : Int32) (m : eM) (h_a0 : kd a0 = 9) (h_b0 : kd b0 = 4) : LC_firstLie_39 (d + 1) a0 x1 x2 x3 w4 b0 p1 p2 m = bL (Pa_factIs d b0 p1 p2 m) fun v2 m1 => bR (gR m1 a0 2) fun r3 => gd r3 6 (bR (gR m1 r3 0) fun r5 => gd r5 4 (bL (Pa_lies d r5 v2 x2 x1 m1) fun v8 m7 => bR (gR m7 a0 2) fun r9 => gd r9 6 (bI (LC_holds d v8 (gI m7 r9 5) m7) fun v12 m11 => if v12 = 0 then (LC_firstLie_2 (d + 1) a0 x1 x2 (x3 + (1 : Int32)) (.long v2) m11) else (yI x3 m11)))) := by
  unfold LC_firstLie_39
  refine (x_cL D179_39 M146  (I146 _ _ _) rfl rfl (ok_i M146 (I146 _ _ _) rfl rfl h_b0)).trans (bL_c fun v2 m1 => ?_)
  refine (x_lstore2 D179_42 (ls' := [.ref a0, .int x1, .int x2, .int x3, .long v2, eU]) rfl rfl).trans ?_
  refine (x_aload1 D179_44 rfl).trans ?_
  refine ((x_getR D179_45).trans (gd_t h_a0)).trans (bR_c fun r3 => ?_)
  refine (x_getR D179_48).trans (gd_c fun h4 => bR_c fun r5 => ?_)
  refine (x_lload2 D179_51 rfl).trans ?_
  refine (x_iload1 D179_53 rfl).trans ?_
  refine (x_iload1 D179_54 rfl).trans ?_
  refine (x_cg D179_55 M80 rfl rfl).trans (gd_c fun h6 => ?_)
  refine (x_cL D179_55 M80  (I80 _ _ _ _) rfl rfl (ok_i M80 (I80 _ _ _ _) rfl rfl h6)).trans (bL_c fun v8 m7 => ?_)
  refine (x_aload1 D179_58 rfl).trans ?_
  refine ((x_getR D179_59).trans (gd_t h_a0)).trans (bR_c fun r9 => ?_)
  refine (x_getI D179_62).trans (gd_c fun h10 => ?_)
  refine (x_cI D179_65 M96 (fun z => by cases z) (I96 _ _) rfl rfl (ok_s M96 (I96 _ _) rfl rfl)).trans (bI_c fun v12 m11 => ?_)
  refine (x_ifeq D179_68).trans (i_c ?_ ?_)
  · refine (x_iinc D179_73 rfl (k := 1) (by decide) (ls' := [.ref a0, .int x1, .int x2, .int (x3 + (1 : Int32)), .long v2, eU]) rfl).trans ?_
    refine (x_goto D179_76).trans ?_
    rfl
  · refine (x_iload1 D179_71 rfl).trans ?_
    exact x_iret D179_72 M179.2.2.1
theorem D180_0 : decode (mB 180) 0 = .ok (.aload_n 0, 1) := by decide +kernel
theorem D180_1 : decode (mB 180) 1 = .ok (.iload_n 1, 1) := by decide +kernel
theorem D180_2 : CS 180 2 181 0 := ⟨.invokevirtual 319, by decide +kernel, by decide +kernel, by decide +kernel, by decide⟩
theorem D180_5 : BR 180 5 (.ifCond .eq 20) (20) 25 := ⟨by decide +kernel, by decide, by decide⟩
theorem D180_25 : decode (mB 180) 25 = .ok (.iconst (-1), 1) := by decide +kernel
theorem D180_26 : decode (mB 180) 26 = .ok (.ireturn, 1) := by decide +kernel
theorem D180_8 : decode (mB 180) 8 = .ok (.iload_n 2, 1) := by decide +kernel
theorem D180_9 : decode (mB 180) 9 = .ok (.aload_n 0, 1) := by decide +kernel
theorem D180_10 : GF 180 10 9 2 2 := ⟨26, true, by decide +kernel, by decide +kernel⟩
theorem D180_13 : GF 180 13 6 2 2 := ⟨121, true, by decide +kernel, by decide +kernel⟩
theorem D180_16 : CS 180 16 70 0 := ⟨.invokevirtual 111, by decide +kernel, by decide +kernel, by decide +kernel, by decide⟩
theorem D180_19 : CS 180 19 182 2 := ⟨.invokestatic 322, by decide +kernel, by decide +kernel, by decide +kernel, by decide⟩
theorem D180_22 : BR 180 22 (.ifCond .ne 5) (5) 27 := ⟨by decide +kernel, by decide, by decide⟩
theorem D180_27 : decode (mB 180) 27 = .ok (.aload_n 0, 1) := by decide +kernel
theorem D180_28 : decode (mB 180) 28 = .ok (.iload_n 1, 1) := by decide +kernel
theorem D180_29 : decode (mB 180) 29 = .ok (.iload_n 2, 1) := by decide +kernel
theorem D180_30 : CS 180 30 183 0 := ⟨.invokevirtual 325, by decide +kernel, by decide +kernel, by decide +kernel, by decide⟩
theorem D180_33 : BR 180 33 (.ifCond .eq 7) (7) 40 := ⟨by decide +kernel, by decide, by decide⟩
theorem D180_40 : decode (mB 180) 40 = .ok (.iconst 0, 1) := by decide +kernel
theorem D180_41 : decode (mB 180) 41 = .ok (.ireturn, 1) := by decide +kernel
theorem D180_36 : decode (mB 180) 36 = .ok (.iconst 1, 1) := by decide +kernel
theorem D180_37 : BR 180 37 (.goto 4) (4) 41 := ⟨by decide +kernel, by decide, by decide⟩
theorem LC_hidden_e (d : Nat) (a0 : Nat) (x1 : Int32) (x2 : Int32) (m : eM) (h_a0 : kd a0 = 9) : LC_hidden (d + 1) a0 x1 x2 m = bI (LC_isPlainLie d a0 x1 m) fun v2 m1 => if v2 = 0 then (yI (-1 : Int32) m1) else (bR (gR m1 a0 2) fun r3 => gd r3 6 (bR (gR m1 r3 2) fun r5 => gd r5 7 (bI (Tk_size d r5 m1) fun v8 m7 => bI (LC_isSet d x2 v8 m7) fun v10 m9 => if ¬ v10 = 0 then (bI (LC_isHidden d a0 x1 x2 m9) fun v12 m11 => if v12 = 0 then (yI (0 : Int32) m11) else (yI (1 : Int32) m11)) else (yI (-1 : Int32) m9)))) := by
  unfold LC_hidden
  refine (x_aload1 D180_0 rfl).trans ?_
  refine (x_iload1 D180_1 rfl).trans ?_
  refine (x_cI D180_2 M181 (fun z => by cases z) (I181 _ _) rfl rfl (ok_i M181 (I181 _ _) rfl rfl h_a0)).trans (bI_c fun v2 m1 => ?_)
  refine (x_ifeq D180_5).trans (i_c ?_ ?_)
  · refine (x_iconst D180_25 (k := -1) (by decide)).trans ?_
    exact x_iret D180_26 M180.2.2.1
  · refine (x_iload1 D180_8 rfl).trans ?_
    refine (x_aload1 D180_9 rfl).trans ?_
    refine ((x_getR D180_10).trans (gd_t h_a0)).trans (bR_c fun r3 => ?_)
    refine (x_getR D180_13).trans (gd_c fun h4 => bR_c fun r5 => ?_)
    refine (x_cg D180_16 M70 rfl rfl).trans (gd_c fun h6 => ?_)
    refine (x_cI D180_16 M70 (fun z => by cases z) (I70 _) rfl rfl (ok_i M70 (I70 _) rfl rfl h6)).trans (bI_c fun v8 m7 => ?_)
    refine (x_cI D180_19 M182 (fun z => by cases z) (I182 _ _) rfl rfl (ok_s M182 (I182 _ _) rfl rfl)).trans (bI_c fun v10 m9 => ?_)
    refine (x_ifne D180_22).trans (i_c ?_ ?_)
    · refine (x_aload1 D180_27 rfl).trans ?_
      refine (x_iload1 D180_28 rfl).trans ?_
      refine (x_iload1 D180_29 rfl).trans ?_
      refine (x_cI D180_30 M183 (fun z => by cases z) (I183 _ _ _) rfl rfl (ok_i M183 (I183 _ _ _) rfl rfl h_a0)).trans (bI_c fun v12 m11 => ?_)
      refine (x_ifeq D180_33).trans (i_c ?_ ?_)
      · refine (x_iconst D180_40 (k := 0) (by decide)).trans ?_
        exact x_iret D180_41 M180.2.2.1
      · refine (x_iconst D180_36 (k := 1) (by decide)).trans ?_
        refine (x_goto D180_37).trans ?_
        exact x_iret D180_41 M180.2.2.1
    · refine (x_iconst D180_25 (k := -1) (by decide)).trans ?_
      exact x_iret D180_26 M180.2.2.1
theorem D181_0 : decode (mB 181) 0 = .ok (.aload_n 0, 1) := by decide +kernel
theorem D181_1 : GF 181 1 9 2 2 := ⟨26, true, by decide +kernel, by decide +kernel⟩
theorem D181_4 : GF 181 4 6 1 2 := ⟨108, true, by decide +kernel, by decide +kernel⟩
theorem D181_7 : decode (mB 181) 7 = .ok (.iload_n 1, 1) := by decide +kernel
theorem D181_8 : CS 181 8 73 0 := ⟨.invokevirtual 170, by decide +kernel, by decide +kernel, by decide +kernel, by decide⟩
theorem D181_11 : BR 181 11 (.ifCond .eq 42) (42) 53 := ⟨by decide +kernel, by decide, by decide⟩
theorem D181_53 : decode (mB 181) 53 = .ok (.iconst 0, 1) := by decide +kernel
theorem D181_54 : decode (mB 181) 54 = .ok (.ireturn, 1) := by decide +kernel
theorem D181_14 : decode (mB 181) 14 = .ok (.aload_n 0, 1) := by decide +kernel
theorem D181_15 : GF 181 15 9 2 2 := ⟨26, true, by decide +kernel, by decide +kernel⟩
theorem D181_18 : GF 181 18 6 1 2 := ⟨108, true, by decide +kernel, by decide +kernel⟩
theorem D181_21 : decode (mB 181) 21 = .ok (.iload_n 1, 1) := by decide +kernel
theorem D181_22 : decode (mB 181) 22 = .ok (.aload_n 0, 1) := by decide +kernel
theorem D181_23 : GF 181 23 9 2 2 := ⟨26, true, by decide +kernel, by decide +kernel⟩
theorem D181_26 : GF 181 26 6 0 2 := ⟨124, false, by decide +kernel, by decide +kernel⟩
theorem D181_29 : decode (mB 181) 29 = .ok (.iconst 0, 1) := by decide +kernel
theorem D181_30 : CS 181 30 104 0 := ⟨.invokevirtual 313, by decide +kernel, by decide +kernel, by decide +kernel, by decide⟩
theorem D181_33 : CS 181 33 105 0 := ⟨.invokevirtual 177, by decide +kernel, by decide +kernel, by decide +kernel, by decide⟩
theorem D181_36 : decode (mB 181) 36 = .ok (.aload_n 0, 1) := by decide +kernel
theorem D181_37 : GF 181 37 9 2 2 := ⟨26, true, by decide +kernel, by decide +kernel⟩
theorem D181_40 : GF 181 40 6 5 0 := ⟨132, false, by decide +kernel, by decide +kernel⟩
theorem D181_43 : CS 181 43 96 2 := ⟨.invokestatic 163, by decide +kernel, by decide +kernel, by decide +kernel, by decide⟩
theorem D181_46 : BR 181 46 (.ifCond .eq 7) (7) 53 := ⟨by decide +kernel, by decide, by decide⟩
theorem D181_49 : decode (mB 181) 49 = .ok (.iconst 1, 1) := by decide +kernel
theorem D181_50 : BR 181 50 (.goto 4) (4) 54 := ⟨by decide +kernel, by decide, by decide⟩
theorem LC_isPlainLie_e (d : Nat) (a0 : Nat) (x1 : Int32) (m : eM) (h_a0 : kd a0 = 9) : LC_isPlainLie (d + 1) a0 x1 m = bR (gR m a0 2) fun r1 => gd r1 6 (bR (gR m r1 1) fun r3 => gd r3 7 (bI (Tk_isIn d r3 x1 m) fun v6 m5 => if v6 = 0 then (yI (0 : Int32) m5) else (bR (gR m5 a0 2) fun r7 => gd r7 6 (bR (gR m5 r7 1) fun r9 => bR (gR m5 a0 2) fun r10 => gd r10 6 (bR (gR m5 r10 0) fun r12 => gd r12 4 (bI (Pa_law d r12 (0 : Int32) m5) fun v15 m14 => gd r9 7 (bL (Tk_lies d r9 x1 v15 m14) fun v18 m17 => bR (gR m17 a0 2) fun r19 => gd r19 6 (bI (LC_holds d v18 (gI m17 r19 5) m17) fun v22 m21 => if v22 = 0 then (yI (0 : Int32) m21) else (yI (1 : Int32) m21))))))))) := by
  unfold LC_isPlainLie
  refine (x_aload1 D181_0 rfl).trans ?_
  refine ((x_getR D181_1).trans (gd_t h_a0)).trans (bR_c fun r1 => ?_)
  refine (x_getR D181_4).trans (gd_c fun h2 => bR_c fun r3 => ?_)
  refine (x_iload1 D181_7 rfl).trans ?_
  refine (x_cg D181_8 M73 rfl rfl).trans (gd_c fun h4 => ?_)
  refine (x_cI D181_8 M73 (fun z => by cases z) (I73 _ _) rfl rfl (ok_i M73 (I73 _ _) rfl rfl h4)).trans (bI_c fun v6 m5 => ?_)
  refine (x_ifeq D181_11).trans (i_c ?_ ?_)
  · refine (x_iconst D181_53 (k := 0) (by decide)).trans ?_
    exact (x_bret D181_54 M181.2.2.1).trans yB0
  · refine (x_aload1 D181_14 rfl).trans ?_
    refine ((x_getR D181_15).trans (gd_t h_a0)).trans (bR_c fun r7 => ?_)
    refine (x_getR D181_18).trans (gd_c fun h8 => bR_c fun r9 => ?_)
    refine (x_iload1 D181_21 rfl).trans ?_
    refine (x_aload1 D181_22 rfl).trans ?_
    refine ((x_getR D181_23).trans (gd_t h_a0)).trans (bR_c fun r10 => ?_)
    refine (x_getR D181_26).trans (gd_c fun h11 => bR_c fun r12 => ?_)
    refine (x_iconst D181_29 (k := 0) (by decide)).trans ?_
    refine (x_cg D181_30 M104 rfl rfl).trans (gd_c fun h13 => ?_)
    refine (x_cI D181_30 M104 (fun z => by cases z) (I104 _ _) rfl rfl (ok_i M104 (I104 _ _) rfl rfl h13)).trans (bI_c fun v15 m14 => ?_)
    refine (x_cg D181_33 M105 rfl rfl).trans (gd_c fun h16 => ?_)
    refine (x_cL D181_33 M105  (I105 _ _ _) rfl rfl (ok_i M105 (I105 _ _ _) rfl rfl h16)).trans (bL_c fun v18 m17 => ?_)
    refine (x_aload1 D181_36 rfl).trans ?_
    refine ((x_getR D181_37).trans (gd_t h_a0)).trans (bR_c fun r19 => ?_)
    refine (x_getI D181_40).trans (gd_c fun h20 => ?_)
    refine (x_cI D181_43 M96 (fun z => by cases z) (I96 _ _) rfl rfl (ok_s M96 (I96 _ _) rfl rfl)).trans (bI_c fun v22 m21 => ?_)
    refine (x_ifeq D181_46).trans (i_c ?_ ?_)
    · refine (x_iconst D181_53 (k := 0) (by decide)).trans ?_
      exact (x_bret D181_54 M181.2.2.1).trans yB0
    · refine (x_iconst D181_49 (k := 1) (by decide)).trans ?_
      refine (x_goto D181_50).trans ?_
      exact (x_bret D181_54 M181.2.2.1).trans yB1
theorem D182_0 : decode (mB 182) 0 = .ok (.iload_n 0, 1) := by decide +kernel
theorem D182_1 : BR 182 1 (.ifCond .lt 14) (14) 15 := ⟨by decide +kernel, by decide, by decide⟩
theorem D182_15 : decode (mB 182) 15 = .ok (.iconst 0, 1) := by decide +kernel
theorem D182_16 : decode (mB 182) 16 = .ok (.ireturn, 1) := by decide +kernel
theorem D182_4 : decode (mB 182) 4 = .ok (.iload_n 0, 1) := by decide +kernel
theorem D182_5 : decode (mB 182) 5 = .ok (.iconst 1, 1) := by decide +kernel
theorem D182_6 : decode (mB 182) 6 = .ok (.iload_n 1, 1) := by decide +kernel
theorem D182_7 : decode (mB 182) 7 = .ok (.ishl, 1) := by decide +kernel
theorem D182_8 : BR 182 8 (.if_icmp .ge 7) (7) 15 := ⟨by decide +kernel, by decide, by decide⟩
theorem D182_11 : decode (mB 182) 11 = .ok (.iconst 1, 1) := by decide +kernel
theorem D182_12 : BR 182 12 (.goto 4) (4) 16 := ⟨by decide +kernel, by decide, by decide⟩
theorem LC_isSet_e (d : Nat) (x0 : Int32) (x1 : Int32) (m : eM)  : LC_isSet d x0 x1 m = if x0 < 0 then (yI (0 : Int32) m) else (if ((1 : Int32) <<< (x1 &&& 31)) ≤ x0 then (yI (0 : Int32) m) else (yI (1 : Int32) m)) := by
  unfold LC_isSet
  refine (x_iload1 D182_0 rfl).trans ?_
  refine (x_iflt D182_1).trans (i_c ?_ ?_)
  · refine (x_iconst D182_15 (k := 0) (by decide)).trans ?_
    exact (x_bret D182_16 M182.2.2.1).trans yB0
  · refine (x_iload1 D182_4 rfl).trans ?_
    refine (x_iconst D182_5 (k := 1) (by decide)).trans ?_
    refine (x_iload1 D182_6 rfl).trans ?_
    refine (x_ishl D182_7).trans ?_
    refine (x_cge D182_8).trans (i_c ?_ ?_)
    · refine (x_iconst D182_15 (k := 0) (by decide)).trans ?_
      exact (x_bret D182_16 M182.2.2.1).trans yB0
    · refine (x_iconst D182_11 (k := 1) (by decide)).trans ?_
      refine (x_goto D182_12).trans ?_
      exact (x_bret D182_16 M182.2.2.1).trans yB1
theorem D183_0 : decode (mB 183) 0 = .ok (.aload_n 0, 1) := by decide +kernel
theorem D183_1 : GF 183 1 9 6 2 := ⟨48, true, by decide +kernel, by decide +kernel⟩
theorem D183_4 : decode (mB 183) 4 = .ok (.aload_n 0, 1) := by decide +kernel
theorem D183_5 : GF 183 5 9 2 2 := ⟨26, true, by decide +kernel, by decide +kernel⟩
theorem D183_8 : GF 183 8 6 1 2 := ⟨108, true, by decide +kernel, by decide +kernel⟩
theorem D183_11 : CS 183 11 147 0 := ⟨.invokevirtual 243, by decide +kernel, by decide +kernel, by decide +kernel, by decide⟩
theorem D183_14 : decode (mB 183) 14 = .ok (.iconst 0, 1) := by decide +kernel
theorem D183_15 : decode (mB 183) 15 = .ok (.istore_n 3, 1) := by decide +kernel
theorem D183_16 : decode (mB 183) 16 = .ok (.iload_n 3, 1) := by decide +kernel
theorem D183_17 : decode (mB 183) 17 = .ok (.aload_n 0, 1) := by decide +kernel
theorem D183_18 : GF 183 18 9 2 2 := ⟨26, true, by decide +kernel, by decide +kernel⟩
theorem D183_21 : GF 183 21 6 2 2 := ⟨121, true, by decide +kernel, by decide +kernel⟩
theorem D183_24 : CS 183 24 70 0 := ⟨.invokevirtual 111, by decide +kernel, by decide +kernel, by decide +kernel, by decide⟩
theorem D183_27 : BR 183 27 (.if_icmp .ge 33) (33) 60 := ⟨by decide +kernel, by decide, by decide⟩
theorem D183_60 : decode (mB 183) 60 = .ok (.aload_n 0, 1) := by decide +kernel
theorem D183_61 : GF 183 61 9 2 2 := ⟨26, true, by decide +kernel, by decide +kernel⟩
theorem D183_64 : GF 183 64 6 0 2 := ⟨124, false, by decide +kernel, by decide +kernel⟩
theorem D183_67 : CS 183 67 95 0 := ⟨.invokevirtual 159, by decide +kernel, by decide +kernel, by decide +kernel, by decide⟩
theorem D183_70 : decode (mB 183) 70 = .ok (.lstore_n 3, 1) := by decide +kernel
theorem D183_71 : decode (mB 183) 71 = .ok (.iconst 0, 1) := by decide +kernel
theorem D183_72 : decode (mB 183) 72 = .ok (.istore 5, 2) := by decide +kernel
theorem D183_30 : decode (mB 183) 30 = .ok (.iload_n 2, 1) := by decide +kernel
theorem D183_31 : decode (mB 183) 31 = .ok (.iload_n 3, 1) := by decide +kernel
theorem D183_32 : decode (mB 183) 32 = .ok (.ishr, 1) := by decide +kernel
theorem D183_33 : decode (mB 183) 33 = .ok (.iconst 1, 1) := by decide +kernel
theorem D183_34 : decode (mB 183) 34 = .ok (.iand, 1) := by decide +kernel
theorem D183_35 : decode (mB 183) 35 = .ok (.iconst 1, 1) := by decide +kernel
theorem D183_36 : BR 183 36 (.if_icmp .ne 18) (18) 54 := ⟨by decide +kernel, by decide, by decide⟩
theorem D183_54 : decode (mB 183) 54 = .ok (.iinc 3 1, 3) := by decide +kernel
theorem D183_57 : BR 183 57 (.goto (-41)) (-41) 16 := ⟨by decide +kernel, by decide, by decide⟩
theorem D183_39 : decode (mB 183) 39 = .ok (.aload_n 0, 1) := by decide +kernel
theorem D183_40 : GF 183 40 9 6 2 := ⟨48, true, by decide +kernel, by decide +kernel⟩
theorem D183_43 : decode (mB 183) 43 = .ok (.aload_n 0, 1) := by decide +kernel
theorem D183_44 : GF 183 44 9 2 2 := ⟨26, true, by decide +kernel, by decide +kernel⟩
theorem D183_47 : GF 183 47 6 2 2 := ⟨121, true, by decide +kernel, by decide +kernel⟩
theorem D183_50 : decode (mB 183) 50 = .ok (.iload_n 3, 1) := by decide +kernel
theorem D183_51 : CS 183 51 184 0 := ⟨.invokevirtual 445, by decide +kernel, by decide +kernel, by decide +kernel, by decide⟩
theorem D183_74 : decode (mB 183) 74 = .ok (.iload 5, 2) := by decide +kernel
theorem D183_76 : decode (mB 183) 76 = .ok (.aload_n 0, 1) := by decide +kernel
theorem D183_77 : GF 183 77 9 2 2 := ⟨26, true, by decide +kernel, by decide +kernel⟩
theorem D183_80 : GF 183 80 6 4 2 := ⟨156, true, by decide +kernel, by decide +kernel⟩
theorem D183_83 : CS 183 83 91 0 := ⟨.invokevirtual 149, by decide +kernel, by decide +kernel, by decide +kernel, by decide⟩
theorem D183_86 : BR 183 86 (.if_icmp .ge 78) (78) 164 := ⟨by decide +kernel, by decide, by decide⟩
theorem D183_164 : decode (mB 183) 164 = .ok (.lload_n 3, 1) := by decide +kernel
theorem D183_165 : decode (mB 183) 165 = .ok (.lconst 0, 1) := by decide +kernel
theorem D183_166 : decode (mB 183) 166 = .ok (.lcmp, 1) := by decide +kernel
theorem D183_167 : BR 183 167 (.ifCond .eq 21) (21) 188 := ⟨by decide +kernel, by decide, by decide⟩
theorem D183_188 : decode (mB 183) 188 = .ok (.iconst 1, 1) := by decide +kernel
theorem D183_189 : BR 183 189 (.goto 4) (4) 193 := ⟨by decide +kernel, by decide, by decide⟩
theorem D183_193 : decode (mB 183) 193 = .ok (.ireturn, 1) := by decide +kernel
theorem D183_170 : decode (mB 183) 170 = .ok (.lload_n 3, 1) := by decide +kernel
theorem D183_171 : decode (mB 183) 171 = .ok (.aload_n 0, 1) := by decide +kernel
theorem D183_172 : GF 183 172 9 2 2 := ⟨26, true, by decide +kernel, by decide +kernel⟩
theorem D183_175 : GF 183 175 6 1 2 := ⟨108, true, by decide +kernel, by decide +kernel⟩
theorem D183_178 : decode (mB 183) 178 = .ok (.iload_n 1, 1) := by decide +kernel
theorem D183_179 : CS 183 179 115 0 := ⟨.invokevirtual 173, by decide +kernel, by decide +kernel, by decide +kernel, by decide⟩
theorem D183_182 : decode (mB 183) 182 = .ok (.land, 1) := by decide +kernel
theorem D183_183 : decode (mB 183) 183 = .ok (.lconst 0, 1) := by decide +kernel
theorem D183_184 : decode (mB 183) 184 = .ok (.lcmp, 1) := by decide +kernel
theorem D183_185 : BR 183 185 (.ifCond .eq 7) (7) 192 := ⟨by decide +kernel, by decide, by decide⟩
theorem D183_192 : decode (mB 183) 192 = .ok (.iconst 0, 1) := by decide +kernel
theorem D183_89 : decode (mB 183) 89 = .ok (.aload_n 0, 1) := by decide +kernel
theorem D183_90 : GF 183 90 9 5 2 := ⟨41, true, by decide +kernel, by decide +kernel⟩
theorem D183_93 : decode (mB 183) 93 = .ok (.aload_n 0, 1) := by decide +kernel
theorem D183_94 : GF 183 94 9 6 2 := ⟨48, true, by decide +kernel, by decide +kernel⟩
theorem D183_97 : decode (mB 183) 97 = .ok (.aload_n 0, 1) := by decide +kernel
theorem D183_98 : GF 183 98 9 2 2 := ⟨26, true, by decide +kernel, by decide +kernel⟩
theorem D183_101 : GF 183 101 6 0 2 := ⟨124, false, by decide +kernel, by decide +kernel⟩
theorem D183_104 : decode (mB 183) 104 = .ok (.aload_n 0, 1) := by decide +kernel
theorem D183_105 : GF 183 105 9 2 2 := ⟨26, true, by decide +kernel, by decide +kernel⟩
theorem D183_108 : GF 183 108 6 4 2 := ⟨156, true, by decide +kernel, by decide +kernel⟩
theorem D183_111 : decode (mB 183) 111 = .ok (.iload 5, 2) := by decide +kernel
theorem D183_113 : CS 183 113 99 0 := ⟨.invokevirtual 415, by decide +kernel, by decide +kernel, by decide +kernel, by decide⟩
theorem D183_116 : decode (mB 183) 116 = .ok (.aload_n 0, 1) := by decide +kernel
theorem D183_117 : GF 183 117 9 2 2 := ⟨26, true, by decide +kernel, by decide +kernel⟩
theorem D183_120 : GF 183 120 6 4 2 := ⟨156, true, by decide +kernel, by decide +kernel⟩
theorem D183_123 : decode (mB 183) 123 = .ok (.iload 5, 2) := by decide +kernel
theorem D183_125 : CS 183 125 101 0 := ⟨.invokevirtual 418, by decide +kernel, by decide +kernel, by decide +kernel, by decide⟩
theorem D183_128 : decode (mB 183) 128 = .ok (.aload_n 0, 1) := by decide +kernel
theorem D183_129 : GF 183 129 9 2 2 := ⟨26, true, by decide +kernel, by decide +kernel⟩
theorem D183_132 : GF 183 132 6 0 2 := ⟨124, false, by decide +kernel, by decide +kernel⟩
theorem D183_135 : CS 183 135 81 0 := ⟨.invokevirtual 226, by decide +kernel, by decide +kernel, by decide +kernel, by decide⟩
theorem D183_138 : CS 183 138 102 0 := ⟨.invokevirtual 255, by decide +kernel, by decide +kernel, by decide +kernel, by decide⟩
theorem D183_141 : decode (mB 183) 141 = .ok (.lload_n 3, 1) := by decide +kernel
theorem D183_142 : decode (mB 183) 142 = .ok (.aload_n 0, 1) := by decide +kernel
theorem D183_143 : GF 183 143 9 5 2 := ⟨41, true, by decide +kernel, by decide +kernel⟩
theorem D183_146 : decode (mB 183) 146 = .ok (.aload_n 0, 1) := by decide +kernel
theorem D183_147 : GF 183 147 9 2 2 := ⟨26, true, by decide +kernel, by decide +kernel⟩
theorem D183_150 : GF 183 150 6 5 0 := ⟨132, false, by decide +kernel, by decide +kernel⟩
theorem D183_153 : CS 183 153 185 0 := ⟨.invokevirtual 449, by decide +kernel, by decide +kernel, by decide +kernel, by decide⟩
theorem D183_156 : decode (mB 183) 156 = .ok (.land, 1) := by decide +kernel
theorem D183_157 : decode (mB 183) 157 = .ok (.lstore_n 3, 1) := by decide +kernel
theorem D183_158 : decode (mB 183) 158 = .ok (.iinc 5 1, 3) := by decide +kernel
theorem D183_161 : BR 183 161 (.goto (-87)) (-87) 74 := ⟨by decide +kernel, by decide, by decide⟩
theorem LC_isHidden_e (d : Nat) (a0 : Nat) (x1 : Int32) (x2 : Int32) (m : eM) (h_a0 : kd a0 = 9) : LC_isHidden (d + 1) a0 x1 x2 m = bR (gR m a0 6) fun r1 => bR (gR m a0 2) fun r2 => gd r2 6 (bR (gR m r2 1) fun r4 => gd r1 7 (bV (Tk_copy d r1 r4 m) fun m6 => LC_isHidden_16 (d + 1) a0 x1 x2 (0 : Int32) m6)) := by
  unfold LC_isHidden
  refine (x_aload1 D183_0 rfl).trans ?_
  refine ((x_getR D183_1).trans (gd_t h_a0)).trans (bR_c fun r1 => ?_)
  refine (x_aload1 D183_4 rfl).trans ?_
  refine ((x_getR D183_5).trans (gd_t h_a0)).trans (bR_c fun r2 => ?_)
  refine (x_getR D183_8).trans (gd_c fun h3 => bR_c fun r4 => ?_)
  refine (x_cg D183_11 M147 rfl rfl).trans (gd_c fun h5 => ?_)
  refine (x_cV D183_11 M147  (I147 _ _) rfl rfl (ok_i M147 (I147 _ _) rfl rfl h5)).trans (bV_c fun m6 => ?_)
  refine (x_iconst D183_14 (k := 0) (by decide)).trans ?_
  refine (x_istore1 D183_15 (ls' := [.ref a0, .int x1, .int x2, .int (0 : Int32), eU, eU]) rfl rfl).trans ?_
  rfl
theorem LC_isHidden_16_e (d : Nat) (a0 : Nat) (x1 : Int32) (x2 : Int32) (x3 : Int32) (m : eM) (h_a0 : kd a0 = 9) : LC_isHidden_16 (d + 1) a0 x1 x2 x3 m = bR (gR m a0 2) fun r1 => gd r1 6 (bR (gR m r1 2) fun r3 => gd r3 7 (bI (Tk_size d r3 m) fun v6 m5 => if v6 ≤ x3 then (bR (gR m5 a0 2) fun r7 => gd r7 6 (bR (gR m5 r7 0) fun r9 => gd r9 4 (bL (Pa_commonWorlds d r9 m5) fun v12 m11 => LC_isHidden_74 (d + 1) a0 x1 x2 v12 (0 : Int32) m11))) else (if ¬ ((x2 >>> (x3 &&& 31)) &&& (1 : Int32)) = (1 : Int32) then (LC_isHidden_16 (d + 1) a0 x1 x2 (x3 + (1 : Int32)) m5) else (bR (gR m5 a0 6) fun r13 => bR (gR m5 a0 2) fun r14 => gd r14 6 (bR (gR m5 r14 2) fun r16 => gd r13 7 (bV (Tk_insert d r13 r16 x3 m5) fun m18 => LC_isHidden_16 (d + 1) a0 x1 x2 (x3 + (1 : Int32)) m18)))))) := by
  unfold LC_isHidden_16
  refine (x_iload1 D183_16 rfl).trans ?_
  refine (x_aload1 D183_17 rfl).trans ?_
  refine ((x_getR D183_18).trans (gd_t h_a0)).trans (bR_c fun r1 => ?_)
  refine (x_getR D183_21).trans (gd_c fun h2 => bR_c fun r3 => ?_)
  refine (x_cg D183_24 M70 rfl rfl).trans (gd_c fun h4 => ?_)
  refine (x_cI D183_24 M70 (fun z => by cases z) (I70 _) rfl rfl (ok_i M70 (I70 _) rfl rfl h4)).trans (bI_c fun v6 m5 => ?_)
  refine (x_cge D183_27).trans (i_c ?_ ?_)
  · refine (x_aload1 D183_60 rfl).trans ?_
    refine ((x_getR D183_61).trans (gd_t h_a0)).trans (bR_c fun r7 => ?_)
    refine (x_getR D183_64).trans (gd_c fun h8 => bR_c fun r9 => ?_)
    refine (x_cg D183_67 M95 rfl rfl).trans (gd_c fun h10 => ?_)
    refine (x_cL D183_67 M95  (I95 _) rfl rfl (ok_i M95 (I95 _) rfl rfl h10)).trans (bL_c fun v12 m11 => ?_)
    refine (x_lstore1 D183_70 (ls' := [.ref a0, .int x1, .int x2, .long v12, eU, eU]) rfl rfl).trans ?_
    refine (x_iconst D183_71 (k := 0) (by decide)).trans ?_
    refine (x_istore2 D183_72 (ls' := [.ref a0, .int x1, .int x2, .long v12, eU, .int (0 : Int32)]) rfl rfl).trans ?_
    rfl
  · refine (x_iload1 D183_30 rfl).trans ?_
    refine (x_iload1 D183_31 rfl).trans ?_
    refine (x_ishr D183_32).trans ?_
    refine (x_iconst D183_33 (k := 1) (by decide)).trans ?_
    refine (x_iand D183_34).trans ?_
    refine (x_iconst D183_35 (k := 1) (by decide)).trans ?_
    refine (x_cne D183_36).trans (i_c ?_ ?_)
    · refine (x_iinc D183_54 rfl (k := 1) (by decide) (ls' := [.ref a0, .int x1, .int x2, .int (x3 + (1 : Int32)), eU, eU]) rfl).trans ?_
      refine (x_goto D183_57).trans ?_
      rfl
    · refine (x_aload1 D183_39 rfl).trans ?_
      refine ((x_getR D183_40).trans (gd_t h_a0)).trans (bR_c fun r13 => ?_)
      refine (x_aload1 D183_43 rfl).trans ?_
      refine ((x_getR D183_44).trans (gd_t h_a0)).trans (bR_c fun r14 => ?_)
      refine (x_getR D183_47).trans (gd_c fun h15 => bR_c fun r16 => ?_)
      refine (x_iload1 D183_50 rfl).trans ?_
      refine (x_cg D183_51 M184 rfl rfl).trans (gd_c fun h17 => ?_)
      refine (x_cV D183_51 M184  (I184 _ _ _) rfl rfl (ok_i M184 (I184 _ _ _) rfl rfl h17)).trans (bV_c fun m18 => ?_)
      refine (x_iinc D183_54 rfl (k := 1) (by decide) (ls' := [.ref a0, .int x1, .int x2, .int (x3 + (1 : Int32)), eU, eU]) rfl).trans ?_
      refine (x_goto D183_57).trans ?_
      rfl
theorem LC_isHidden_74_e (d : Nat) (a0 : Nat) (x1 : Int32) (x2 : Int32) (y3 : Int64) (x5 : Int32) (m : eM) (h_a0 : kd a0 = 9) : LC_isHidden_74 (d + 1) a0 x1 x2 y3 x5 m = bR (gR m a0 2) fun r1 => gd r1 6 (bR (gR m r1 4) fun r3 => gd r3 3 (bI (Lo_size d r3 m) fun v6 m5 => if v6 ≤ x5 then (if (lg_cmp y3 (0 : Int64)) = 0 then (yI (1 : Int32) m5) else (bR (gR m5 a0 2) fun r7 => gd r7 6 (bR (gR m5 r7 1) fun r9 => gd r9 7 (bL (Tk_so d r9 x1 m5) fun v12 m11 => if (lg_cmp (y3 &&& v12) (0 : Int64)) = 0 then (yI (0 : Int32) m11) else (yI (1 : Int32) m11))))) else (bR (gR m5 a0 5) fun r13 => bR (gR m5 a0 6) fun r14 => bR (gR m5 a0 2) fun r15 => gd r15 6 (bR (gR m5 r15 0) fun r17 => bR (gR m5 a0 2) fun r18 => gd r18 6 (bR (gR m5 r18 4) fun r20 => gd r20 3 (bI (Lo_cock d r20 x5 m5) fun v23 m22 => bR (gR m22 a0 2) fun r24 => gd r24 6 (bR (gR m22 r24 4) fun r26 => gd r26 3 (bI (Lo_minute d r26 x5 m22) fun v29 m28 => bR (gR m28 a0 2) fun r30 => gd r30 6 (bR (gR m28 r30 0) fun r32 => gd r32 4 (bL (Pa_allWorlds d r32 m28) fun v35 m34 => gd r13 0 (bV (Ai_take d r13 r14 r17 v23 v29 v35 m34) fun m37 => bR (gR m37 a0 5) fun r38 => bR (gR m37 a0 2) fun r39 => gd r39 6 (gd r38 0 (bL (Ai_groupOf d r38 (gI m37 r39 5) m37) fun v43 m42 => LC_isHidden_74 (d + 1) a0 x1 x2 (y3 &&& v43) (x5 + (1 : Int32)) m42))))))))))))) := by
  unfold LC_isHidden_74
  refine (x_iload2 D183_74 rfl).trans ?_
  refine (x_aload1 D183_76 rfl).trans ?_
  refine ((x_getR D183_77).trans (gd_t h_a0)).trans (bR_c fun r1 => ?_)
  refine (x_getR D183_80).trans (gd_c fun h2 => bR_c fun r3 => ?_)
  refine (x_cg D183_83 M91 rfl rfl).trans (gd_c fun h4 => ?_)
  refine (x_cI D183_83 M91 (fun z => by cases z) (I91 _) rfl rfl (ok_i M91 (I91 _) rfl rfl h4)).trans (bI_c fun v6 m5 => ?_)
  refine (x_cge D183_86).trans (i_c ?_ ?_)
  · refine (x_lload1 D183_164 rfl).trans ?_
    refine (x_lconst0 D183_165).trans ?_
    refine (x_lcmp D183_166).trans ?_
    refine (x_ifeq D183_167).trans (i_c ?_ ?_)
    · refine (x_iconst D183_188 (k := 1) (by decide)).trans ?_
      refine (x_goto D183_189).trans ?_
      exact (x_bret D183_193 M183.2.2.1).trans yB1
    · refine (x_lload1 D183_170 rfl).trans ?_
      refine (x_aload1 D183_171 rfl).trans ?_
      refine ((x_getR D183_172).trans (gd_t h_a0)).trans (bR_c fun r7 => ?_)
      refine (x_getR D183_175).trans (gd_c fun h8 => bR_c fun r9 => ?_)
      refine (x_iload1 D183_178 rfl).trans ?_
      refine (x_cg D183_179 M115 rfl rfl).trans (gd_c fun h10 => ?_)
      refine (x_cL D183_179 M115  (I115 _ _) rfl rfl (ok_i M115 (I115 _ _) rfl rfl h10)).trans (bL_c fun v12 m11 => ?_)
      refine (x_land D183_182).trans ?_
      refine (x_lconst0 D183_183).trans ?_
      refine (x_lcmp D183_184).trans ?_
      refine (x_ifeq D183_185).trans (i_c ?_ ?_)
      · refine (x_iconst D183_192 (k := 0) (by decide)).trans ?_
        exact (x_bret D183_193 M183.2.2.1).trans yB0
      · refine (x_iconst D183_188 (k := 1) (by decide)).trans ?_
        refine (x_goto D183_189).trans ?_
        exact (x_bret D183_193 M183.2.2.1).trans yB1
  · refine (x_aload1 D183_89 rfl).trans ?_
    refine ((x_getR D183_90).trans (gd_t h_a0)).trans (bR_c fun r13 => ?_)
    refine (x_aload1 D183_93 rfl).trans ?_
    refine ((x_getR D183_94).trans (gd_t h_a0)).trans (bR_c fun r14 => ?_)
    refine (x_aload1 D183_97 rfl).trans ?_
    refine ((x_getR D183_98).trans (gd_t h_a0)).trans (bR_c fun r15 => ?_)
    refine (x_getR D183_101).trans (gd_c fun h16 => bR_c fun r17 => ?_)
    refine (x_aload1 D183_104 rfl).trans ?_
    refine ((x_getR D183_105).trans (gd_t h_a0)).trans (bR_c fun r18 => ?_)
    refine (x_getR D183_108).trans (gd_c fun h19 => bR_c fun r20 => ?_)
    refine (x_iload2 D183_111 rfl).trans ?_
    refine (x_cg D183_113 M99 rfl rfl).trans (gd_c fun h21 => ?_)
    refine (x_cI D183_113 M99 (fun z => by cases z) (I99 _ _) rfl rfl (ok_i M99 (I99 _ _) rfl rfl h21)).trans (bI_c fun v23 m22 => ?_)
    refine (x_aload1 D183_116 rfl).trans ?_
    refine ((x_getR D183_117).trans (gd_t h_a0)).trans (bR_c fun r24 => ?_)
    refine (x_getR D183_120).trans (gd_c fun h25 => bR_c fun r26 => ?_)
    refine (x_iload2 D183_123 rfl).trans ?_
    refine (x_cg D183_125 M101 rfl rfl).trans (gd_c fun h27 => ?_)
    refine (x_cI D183_125 M101 (fun z => by cases z) (I101 _ _) rfl rfl (ok_i M101 (I101 _ _) rfl rfl h27)).trans (bI_c fun v29 m28 => ?_)
    refine (x_aload1 D183_128 rfl).trans ?_
    refine ((x_getR D183_129).trans (gd_t h_a0)).trans (bR_c fun r30 => ?_)
    refine (x_getR D183_132).trans (gd_c fun h31 => bR_c fun r32 => ?_)
    refine (x_cg D183_135 M81 rfl rfl).trans (gd_c fun h33 => ?_)
    refine (x_cL D183_135 M81  (I81 _) rfl rfl (ok_i M81 (I81 _) rfl rfl h33)).trans (bL_c fun v35 m34 => ?_)
    refine (x_cg D183_138 M102 rfl rfl).trans (gd_c fun h36 => ?_)
    refine (x_cV D183_138 M102  (I102 _ _ _ _ _ _) rfl rfl (ok_i M102 (I102 _ _ _ _ _ _) rfl rfl h36)).trans (bV_c fun m37 => ?_)
    refine (x_lload1 D183_141 rfl).trans ?_
    refine (x_aload1 D183_142 rfl).trans ?_
    refine ((x_getR D183_143).trans (gd_t h_a0)).trans (bR_c fun r38 => ?_)
    refine (x_aload1 D183_146 rfl).trans ?_
    refine ((x_getR D183_147).trans (gd_t h_a0)).trans (bR_c fun r39 => ?_)
    refine (x_getI D183_150).trans (gd_c fun h40 => ?_)
    refine (x_cg D183_153 M185 rfl rfl).trans (gd_c fun h41 => ?_)
    refine (x_cL D183_153 M185  (I185 _ _) rfl rfl (ok_i M185 (I185 _ _) rfl rfl h41)).trans (bL_c fun v43 m42 => ?_)
    refine (x_land D183_156).trans ?_
    refine (x_lstore1 D183_157 (ls' := [.ref a0, .int x1, .int x2, .long (y3 &&& v43), eU, .int x5]) rfl rfl).trans ?_
    refine (x_iinc D183_158 rfl (k := 1) (by decide) (ls' := [.ref a0, .int x1, .int x2, .long (y3 &&& v43), eU, .int (x5 + (1 : Int32))]) rfl).trans ?_
    refine (x_goto D183_161).trans ?_
    rfl
theorem D186_0 : decode (mB 186) 0 = .ok (.aload_n 0, 1) := by decide +kernel
theorem D186_1 : decode (mB 186) 1 = .ok (.iload_n 1, 1) := by decide +kernel
theorem D186_2 : CS 186 2 181 0 := ⟨.invokevirtual 319, by decide +kernel, by decide +kernel, by decide +kernel, by decide⟩
theorem D186_5 : BR 186 5 (.ifCond .eq 10) (10) 15 := ⟨by decide +kernel, by decide, by decide⟩
theorem D186_15 : decode (mB 186) 15 = .ok (.iconst (-1), 1) := by decide +kernel
theorem D186_16 : decode (mB 186) 16 = .ok (.ireturn, 1) := by decide +kernel
theorem D186_8 : decode (mB 186) 8 = .ok (.iload_n 2, 1) := by decide +kernel
theorem D186_9 : CS 186 9 125 2 := ⟨.invokestatic 201, by decide +kernel, by decide +kernel, by decide +kernel, by decide⟩
theorem D186_12 : BR 186 12 (.ifCond .ne 5) (5) 17 := ⟨by decide +kernel, by decide, by decide⟩
theorem D186_17 : decode (mB 186) 17 = .ok (.iconst (-1), 1) := by decide +kernel
theorem D186_18 : decode (mB 186) 18 = .ok (.istore_n 3, 1) := by decide +kernel
theorem D186_19 : decode (mB 186) 19 = .ok (.iconst 0, 1) := by decide +kernel
theorem D186_20 : decode (mB 186) 20 = .ok (.istore 4, 2) := by decide +kernel
theorem D186_22 : decode (mB 186) 22 = .ok (.iload 4, 2) := by decide +kernel
theorem D186_24 : decode (mB 186) 24 = .ok (.iconst 1, 1) := by decide +kernel
theorem D186_25 : decode (mB 186) 25 = .ok (.aload_n 0, 1) := by decide +kernel
theorem D186_26 : GF 186 26 9 2 2 := ⟨26, true, by decide +kernel, by decide +kernel⟩
theorem D186_29 : GF 186 29 6 2 2 := ⟨121, true, by decide +kernel, by decide +kernel⟩
theorem D186_32 : CS 186 32 70 0 := ⟨.invokevirtual 111, by decide +kernel, by decide +kernel, by decide +kernel, by decide⟩
theorem D186_35 : decode (mB 186) 35 = .ok (.ishl, 1) := by decide +kernel
theorem D186_36 : BR 186 36 (.if_icmp .ge 31) (31) 67 := ⟨by decide +kernel, by decide, by decide⟩
theorem D186_67 : decode (mB 186) 67 = .ok (.iload_n 3, 1) := by decide +kernel
theorem D186_68 : decode (mB 186) 68 = .ok (.iload_n 2, 1) := by decide +kernel
theorem D186_69 : CS 186 69 135 2 := ⟨.invokestatic 222, by decide +kernel, by decide +kernel, by decide +kernel, by decide⟩
theorem D186_72 : decode (mB 186) 72 = .ok (.ireturn, 1) := by decide +kernel
theorem D186_39 : decode (mB 186) 39 = .ok (.iload 4, 2) := by decide +kernel
theorem D186_41 : decode (mB 186) 41 = .ok (.iload_n 3, 1) := by decide +kernel
theorem D186_42 : CS 186 42 133 2 := ⟨.invokestatic 328, by decide +kernel, by decide +kernel, by decide +kernel, by decide⟩
theorem D186_45 : BR 186 45 (.ifCond .eq 16) (16) 61 := ⟨by decide +kernel, by decide, by decide⟩
theorem D186_61 : decode (mB 186) 61 = .ok (.iinc 4 1, 3) := by decide +kernel
theorem D186_64 : BR 186 64 (.goto (-42)) (-42) 22 := ⟨by decide +kernel, by decide, by decide⟩
theorem D186_48 : decode (mB 186) 48 = .ok (.aload_n 0, 1) := by decide +kernel
theorem D186_49 : decode (mB 186) 49 = .ok (.iload_n 1, 1) := by decide +kernel
theorem D186_50 : decode (mB 186) 50 = .ok (.iload 4, 2) := by decide +kernel
theorem D186_52 : CS 186 52 183 0 := ⟨.invokevirtual 325, by decide +kernel, by decide +kernel, by decide +kernel, by decide⟩
theorem D186_55 : BR 186 55 (.ifCond .eq 6) (6) 61 := ⟨by decide +kernel, by decide, by decide⟩
theorem D186_58 : decode (mB 186) 58 = .ok (.iload 4, 2) := by decide +kernel
theorem D186_60 : decode (mB 186) 60 = .ok (.istore_n 3, 1) := by decide +kernel
theorem LC_hide_e (d : Nat) (a0 : Nat) (x1 : Int32) (x2 : Int32) (m : eM) (h_a0 : kd a0 = 9) : LC_hide (d + 1) a0 x1 x2 m = bI (LC_isPlainLie d a0 x1 m) fun v2 m1 => if v2 = 0 then (yI (-1 : Int32) m1) else (bI (LC_isWhat d x2 m1) fun v4 m3 => if ¬ v4 = 0 then (LC_hide_22 (d + 1) a0 x1 x2 (-1 : Int32) (0 : Int32) m3) else (yI (-1 : Int32) m3)) := by
  unfold LC_hide
  refine (x_aload1 D186_0 rfl).trans ?_
  refine (x_iload1 D186_1 rfl).trans ?_
  refine (x_cI D186_2 M181 (fun z => by cases z) (I181 _ _) rfl rfl (ok_i M181 (I181 _ _) rfl rfl h_a0)).trans (bI_c fun v2 m1 => ?_)
  refine (x_ifeq D186_5).trans (i_c ?_ ?_)
  · refine (x_iconst D186_15 (k := -1) (by decide)).trans ?_
    exact x_iret D186_16 M186.2.2.1
  · refine (x_iload1 D186_8 rfl).trans ?_
    refine (x_cI D186_9 M125 (fun z => by cases z) (I125 _) rfl rfl (ok_s M125 (I125 _) rfl rfl)).trans (bI_c fun v4 m3 => ?_)
    refine (x_ifne D186_12).trans (i_c ?_ ?_)
    · refine (x_iconst D186_17 (k := -1) (by decide)).trans ?_
      refine (x_istore1 D186_18 (ls' := [.ref a0, .int x1, .int x2, .int (-1 : Int32), eU]) rfl rfl).trans ?_
      refine (x_iconst D186_19 (k := 0) (by decide)).trans ?_
      refine (x_istore2 D186_20 (ls' := [.ref a0, .int x1, .int x2, .int (-1 : Int32), .int (0 : Int32)]) rfl rfl).trans ?_
      rfl
    · refine (x_iconst D186_15 (k := -1) (by decide)).trans ?_
      exact x_iret D186_16 M186.2.2.1
theorem LC_hide_22_e (d : Nat) (a0 : Nat) (x1 : Int32) (x2 : Int32) (x3 : Int32) (x4 : Int32) (m : eM) (h_a0 : kd a0 = 9) : LC_hide_22 (d + 1) a0 x1 x2 x3 x4 m = bR (gR m a0 2) fun r1 => gd r1 6 (bR (gR m r1 2) fun r3 => gd r3 7 (bI (Tk_size d r3 m) fun v6 m5 => if ((1 : Int32) <<< (v6 &&& 31)) ≤ x4 then (bI (LC_sizeOrSet d x3 x2 m5) fun v8 m7 => yI v8 m7) else (bI (LC_isFewer d x4 x3 m5) fun v10 m9 => if v10 = 0 then (LC_hide_22 (d + 1) a0 x1 x2 x3 (x4 + (1 : Int32)) m9) else (bI (LC_isHidden d a0 x1 x4 m9) fun v12 m11 => if v12 = 0 then (LC_hide_22 (d + 1) a0 x1 x2 x3 (x4 + (1 : Int32)) m11) else (LC_hide_22 (d + 1) a0 x1 x2 x4 (x4 + (1 : Int32)) m11))))) := by
  unfold LC_hide_22
  refine (x_iload2 D186_22 rfl).trans ?_
  refine (x_iconst D186_24 (k := 1) (by decide)).trans ?_
  refine (x_aload1 D186_25 rfl).trans ?_
  refine ((x_getR D186_26).trans (gd_t h_a0)).trans (bR_c fun r1 => ?_)
  refine (x_getR D186_29).trans (gd_c fun h2 => bR_c fun r3 => ?_)
  refine (x_cg D186_32 M70 rfl rfl).trans (gd_c fun h4 => ?_)
  refine (x_cI D186_32 M70 (fun z => by cases z) (I70 _) rfl rfl (ok_i M70 (I70 _) rfl rfl h4)).trans (bI_c fun v6 m5 => ?_)
  refine (x_ishl D186_35).trans ?_
  refine (x_cge D186_36).trans (i_c ?_ ?_)
  · refine (x_iload1 D186_67 rfl).trans ?_
    refine (x_iload1 D186_68 rfl).trans ?_
    refine (x_cI D186_69 M135 (fun z => by cases z) (I135 _ _) rfl rfl (ok_s M135 (I135 _ _) rfl rfl)).trans (bI_c fun v8 m7 => ?_)
    exact x_iret D186_72 M186.2.2.1
  · refine (x_iload2 D186_39 rfl).trans ?_
    refine (x_iload1 D186_41 rfl).trans ?_
    refine (x_cI D186_42 M133 (fun z => by cases z) (I133 _ _) rfl rfl (ok_s M133 (I133 _ _) rfl rfl)).trans (bI_c fun v10 m9 => ?_)
    refine (x_ifeq D186_45).trans (i_c ?_ ?_)
    · refine (x_iinc D186_61 rfl (k := 1) (by decide) (ls' := [.ref a0, .int x1, .int x2, .int x3, .int (x4 + (1 : Int32))]) rfl).trans ?_
      refine (x_goto D186_64).trans ?_
      rfl
    · refine (x_aload1 D186_48 rfl).trans ?_
      refine (x_iload1 D186_49 rfl).trans ?_
      refine (x_iload2 D186_50 rfl).trans ?_
      refine (x_cI D186_52 M183 (fun z => by cases z) (I183 _ _ _) rfl rfl (ok_i M183 (I183 _ _ _) rfl rfl h_a0)).trans (bI_c fun v12 m11 => ?_)
      refine (x_ifeq D186_55).trans (i_c ?_ ?_)
      · refine (x_iinc D186_61 rfl (k := 1) (by decide) (ls' := [.ref a0, .int x1, .int x2, .int x3, .int (x4 + (1 : Int32))]) rfl).trans ?_
        refine (x_goto D186_64).trans ?_
        rfl
      · refine (x_iload2 D186_58 rfl).trans ?_
        refine (x_istore1 D186_60 (ls' := [.ref a0, .int x1, .int x2, .int x4, .int x4]) rfl rfl).trans ?_
        refine (x_iinc D186_61 rfl (k := 1) (by decide) (ls' := [.ref a0, .int x1, .int x2, .int x4, .int (x4 + (1 : Int32))]) rfl).trans ?_
        refine (x_goto D186_64).trans ?_
        rfl
theorem D187_0 : decode (mB 187) 0 = .ok (.iload_n 1, 1) := by decide +kernel
theorem D187_1 : CS 187 1 90 2 := ⟨.invokestatic 142, by decide +kernel, by decide +kernel, by decide +kernel, by decide⟩
theorem D187_4 : BR 187 4 (.ifCond .eq 10) (10) 14 := ⟨by decide +kernel, by decide, by decide⟩
theorem D187_14 : decode (mB 187) 14 = .ok (.iconst (-1), 1) := by decide +kernel
theorem D187_15 : decode (mB 187) 15 = .ok (.ireturn, 1) := by decide +kernel
theorem D187_7 : decode (mB 187) 7 = .ok (.iload_n 2, 1) := by decide +kernel
theorem D187_8 : CS 187 8 90 2 := ⟨.invokestatic 142, by decide +kernel, by decide +kernel, by decide +kernel, by decide⟩
theorem D187_11 : BR 187 11 (.ifCond .ne 5) (5) 16 := ⟨by decide +kernel, by decide, by decide⟩
theorem D187_16 : decode (mB 187) 16 = .ok (.iconst 0, 1) := by decide +kernel
theorem D187_17 : decode (mB 187) 17 = .ok (.istore_n 3, 1) := by decide +kernel
theorem D187_18 : decode (mB 187) 18 = .ok (.iconst 0, 1) := by decide +kernel
theorem D187_19 : decode (mB 187) 19 = .ok (.istore 4, 2) := by decide +kernel
theorem D187_21 : decode (mB 187) 21 = .ok (.iload 4, 2) := by decide +kernel
theorem D187_23 : decode (mB 187) 23 = .ok (.aload_n 0, 1) := by decide +kernel
theorem D187_24 : GF 187 24 9 2 2 := ⟨26, true, by decide +kernel, by decide +kernel⟩
theorem D187_27 : GF 187 27 6 0 2 := ⟨124, false, by decide +kernel, by decide +kernel⟩
theorem D187_30 : CS 187 30 178 0 := ⟨.invokevirtual 310, by decide +kernel, by decide +kernel, by decide +kernel, by decide⟩
theorem D187_33 : BR 187 33 (.if_icmp .ge 36) (36) 69 := ⟨by decide +kernel, by decide, by decide⟩
theorem D187_69 : decode (mB 187) 69 = .ok (.iload_n 3, 1) := by decide +kernel
theorem D187_70 : decode (mB 187) 70 = .ok (.ireturn, 1) := by decide +kernel
theorem D187_36 : decode (mB 187) 36 = .ok (.aload_n 0, 1) := by decide +kernel
theorem D187_37 : GF 187 37 9 2 2 := ⟨26, true, by decide +kernel, by decide +kernel⟩
theorem D187_40 : GF 187 40 6 0 2 := ⟨124, false, by decide +kernel, by decide +kernel⟩
theorem D187_43 : decode (mB 187) 43 = .ok (.iload 4, 2) := by decide +kernel
theorem D187_45 : CS 187 45 109 0 := ⟨.invokevirtual 352, by decide +kernel, by decide +kernel, by decide +kernel, by decide⟩
theorem D187_48 : decode (mB 187) 48 = .ok (.iload_n 1, 1) := by decide +kernel
theorem D187_49 : decode (mB 187) 49 = .ok (.iload_n 2, 1) := by decide +kernel
theorem D187_50 : CS 187 50 113 2 := ⟨.invokestatic 355, by decide +kernel, by decide +kernel, by decide +kernel, by decide⟩
theorem D187_53 : BR 187 53 (.ifCond .eq 10) (10) 63 := ⟨by decide +kernel, by decide, by decide⟩
theorem D187_63 : decode (mB 187) 63 = .ok (.iinc 4 1, 3) := by decide +kernel
theorem D187_66 : BR 187 66 (.goto (-45)) (-45) 21 := ⟨by decide +kernel, by decide, by decide⟩
theorem D187_56 : decode (mB 187) 56 = .ok (.iload_n 3, 1) := by decide +kernel
theorem D187_57 : decode (mB 187) 57 = .ok (.iconst 1, 1) := by decide +kernel
theorem D187_58 : decode (mB 187) 58 = .ok (.iload 4, 2) := by decide +kernel
theorem D187_60 : decode (mB 187) 60 = .ok (.ishl, 1) := by decide +kernel
theorem D187_61 : decode (mB 187) 61 = .ok (.ior, 1) := by decide +kernel
theorem D187_62 : decode (mB 187) 62 = .ok (.istore_n 3, 1) := by decide +kernel
theorem LC_sector_e (d : Nat) (a0 : Nat) (x1 : Int32) (x2 : Int32) (m : eM) (h_a0 : kd a0 = 9) : LC_sector (d + 1) a0 x1 x2 m = bI (LC_isBearing d x1 m) fun v2 m1 => if v2 = 0 then (yI (-1 : Int32) m1) else (bI (LC_isBearing d x2 m1) fun v4 m3 => if ¬ v4 = 0 then (LC_sector_21 (d + 1) a0 x1 x2 (0 : Int32) (0 : Int32) m3) else (yI (-1 : Int32) m3)) := by
  unfold LC_sector
  refine (x_iload1 D187_0 rfl).trans ?_
  refine (x_cI D187_1 M90 (fun z => by cases z) (I90 _) rfl rfl (ok_s M90 (I90 _) rfl rfl)).trans (bI_c fun v2 m1 => ?_)
  refine (x_ifeq D187_4).trans (i_c ?_ ?_)
  · refine (x_iconst D187_14 (k := -1) (by decide)).trans ?_
    exact x_iret D187_15 M187.2.2.1
  · refine (x_iload1 D187_7 rfl).trans ?_
    refine (x_cI D187_8 M90 (fun z => by cases z) (I90 _) rfl rfl (ok_s M90 (I90 _) rfl rfl)).trans (bI_c fun v4 m3 => ?_)
    refine (x_ifne D187_11).trans (i_c ?_ ?_)
    · refine (x_iconst D187_16 (k := 0) (by decide)).trans ?_
      refine (x_istore1 D187_17 (ls' := [.ref a0, .int x1, .int x2, .int (0 : Int32), eU]) rfl rfl).trans ?_
      refine (x_iconst D187_18 (k := 0) (by decide)).trans ?_
      refine (x_istore2 D187_19 (ls' := [.ref a0, .int x1, .int x2, .int (0 : Int32), .int (0 : Int32)]) rfl rfl).trans ?_
      rfl
    · refine (x_iconst D187_14 (k := -1) (by decide)).trans ?_
      exact x_iret D187_15 M187.2.2.1
theorem LC_sector_21_e (d : Nat) (a0 : Nat) (x1 : Int32) (x2 : Int32) (x3 : Int32) (x4 : Int32) (m : eM) (h_a0 : kd a0 = 9) : LC_sector_21 (d + 1) a0 x1 x2 x3 x4 m = bR (gR m a0 2) fun r1 => gd r1 6 (bR (gR m r1 0) fun r3 => gd r3 4 (bI (Pa_people d r3 m) fun v6 m5 => if v6 ≤ x4 then (yI x3 m5) else (bR (gR m5 a0 2) fun r7 => gd r7 6 (bR (gR m5 r7 0) fun r9 => gd r9 4 (bI (Pa_bearing d r9 x4 m5) fun v12 m11 => bI (LC_isWithin d v12 x1 x2 m11) fun v14 m13 => if v14 = 0 then (LC_sector_21 (d + 1) a0 x1 x2 x3 (x4 + (1 : Int32)) m13) else (LC_sector_21 (d + 1) a0 x1 x2 (x3 ||| ((1 : Int32) <<< (x4 &&& 31))) (x4 + (1 : Int32)) m13)))))) := by
  unfold LC_sector_21
  refine (x_iload2 D187_21 rfl).trans ?_
  refine (x_aload1 D187_23 rfl).trans ?_
  refine ((x_getR D187_24).trans (gd_t h_a0)).trans (bR_c fun r1 => ?_)
  refine (x_getR D187_27).trans (gd_c fun h2 => bR_c fun r3 => ?_)
  refine (x_cg D187_30 M178 rfl rfl).trans (gd_c fun h4 => ?_)
  refine (x_cI D187_30 M178 (fun z => by cases z) (I178 _) rfl rfl (ok_i M178 (I178 _) rfl rfl h4)).trans (bI_c fun v6 m5 => ?_)
  refine (x_cge D187_33).trans (i_c ?_ ?_)
  · refine (x_iload1 D187_69 rfl).trans ?_
    exact x_iret D187_70 M187.2.2.1
  · refine (x_aload1 D187_36 rfl).trans ?_
    refine ((x_getR D187_37).trans (gd_t h_a0)).trans (bR_c fun r7 => ?_)
    refine (x_getR D187_40).trans (gd_c fun h8 => bR_c fun r9 => ?_)
    refine (x_iload2 D187_43 rfl).trans ?_
    refine (x_cg D187_45 M109 rfl rfl).trans (gd_c fun h10 => ?_)
    refine (x_cI D187_45 M109 (fun z => by cases z) (I109 _ _) rfl rfl (ok_i M109 (I109 _ _) rfl rfl h10)).trans (bI_c fun v12 m11 => ?_)
    refine (x_iload1 D187_48 rfl).trans ?_
    refine (x_iload1 D187_49 rfl).trans ?_
    refine (x_cI D187_50 M113 (fun z => by cases z) (I113 _ _ _) rfl rfl (ok_s M113 (I113 _ _ _) rfl rfl)).trans (bI_c fun v14 m13 => ?_)
    refine (x_ifeq D187_53).trans (i_c ?_ ?_)
    · refine (x_iinc D187_63 rfl (k := 1) (by decide) (ls' := [.ref a0, .int x1, .int x2, .int x3, .int (x4 + (1 : Int32))]) rfl).trans ?_
      refine (x_goto D187_66).trans ?_
      rfl
    · refine (x_iload1 D187_56 rfl).trans ?_
      refine (x_iconst D187_57 (k := 1) (by decide)).trans ?_
      refine (x_iload2 D187_58 rfl).trans ?_
      refine (x_ishl D187_60).trans ?_
      refine (x_ior D187_61).trans ?_
      refine (x_istore1 D187_62 (ls' := [.ref a0, .int x1, .int x2, .int (x3 ||| ((1 : Int32) <<< (x4 &&& 31))), .int x4]) rfl rfl).trans ?_
      refine (x_iinc D187_63 rfl (k := 1) (by decide) (ls' := [.ref a0, .int x1, .int x2, .int (x3 ||| ((1 : Int32) <<< (x4 &&& 31))), .int (x4 + (1 : Int32))]) rfl).trans ?_
      refine (x_goto D187_66).trans ?_
      rfl
theorem D188_0 : decode (mB 188) 0 = .ok (.iload_n 1, 1) := by decide +kernel
theorem D188_1 : BR 188 1 (.ifCond .lt 17) (17) 18 := ⟨by decide +kernel, by decide, by decide⟩
theorem D188_18 : decode (mB 188) 18 = .ok (.iconst (-1), 1) := by decide +kernel
theorem D188_19 : decode (mB 188) 19 = .ok (.ireturn, 1) := by decide +kernel
theorem D188_4 : decode (mB 188) 4 = .ok (.iload_n 1, 1) := by decide +kernel
theorem D188_5 : decode (mB 188) 5 = .ok (.sipush 180, 3) := by decide +kernel
theorem D188_8 : BR 188 8 (.if_icmp .gt 10) (10) 18 := ⟨by decide +kernel, by decide, by decide⟩
theorem D188_11 : decode (mB 188) 11 = .ok (.iload_n 2, 1) := by decide +kernel
theorem D188_12 : CS 188 12 125 2 := ⟨.invokestatic 201, by decide +kernel, by decide +kernel, by decide +kernel, by decide⟩
theorem D188_15 : BR 188 15 (.ifCond .ne 5) (5) 20 := ⟨by decide +kernel, by decide, by decide⟩
theorem D188_20 : decode (mB 188) 20 = .ok (.iconst 0, 1) := by decide +kernel
theorem D188_21 : decode (mB 188) 21 = .ok (.istore_n 3, 1) := by decide +kernel
theorem D188_22 : decode (mB 188) 22 = .ok (.iconst 0, 1) := by decide +kernel
theorem D188_23 : decode (mB 188) 23 = .ok (.istore 4, 2) := by decide +kernel
theorem D188_25 : decode (mB 188) 25 = .ok (.iconst 0, 1) := by decide +kernel
theorem D188_26 : decode (mB 188) 26 = .ok (.istore 5, 2) := by decide +kernel
theorem D188_28 : decode (mB 188) 28 = .ok (.iload 5, 2) := by decide +kernel
theorem D188_30 : decode (mB 188) 30 = .ok (.aload_n 0, 1) := by decide +kernel
theorem D188_31 : GF 188 31 9 2 2 := ⟨26, true, by decide +kernel, by decide +kernel⟩
theorem D188_34 : GF 188 34 6 0 2 := ⟨124, false, by decide +kernel, by decide +kernel⟩
theorem D188_37 : CS 188 37 178 0 := ⟨.invokevirtual 310, by decide +kernel, by decide +kernel, by decide +kernel, by decide⟩
theorem D188_40 : BR 188 40 (.if_icmp .ge 49) (49) 89 := ⟨by decide +kernel, by decide, by decide⟩
theorem D188_89 : decode (mB 188) 89 = .ok (.iload_n 2, 1) := by decide +kernel
theorem D188_90 : BR 188 90 (.ifCond .ne 9) (9) 99 := ⟨by decide +kernel, by decide, by decide⟩
theorem D188_99 : decode (mB 188) 99 = .ok (.iload 4, 2) := by decide +kernel
theorem D188_101 : decode (mB 188) 101 = .ok (.ireturn, 1) := by decide +kernel
theorem D188_93 : decode (mB 188) 93 = .ok (.iload_n 3, 1) := by decide +kernel
theorem D188_94 : decode (mB 188) 94 = .ok (.iconst 2, 1) := by decide +kernel
theorem D188_95 : decode (mB 188) 95 = .ok (.idiv, 1) := by decide +kernel
theorem D188_96 : BR 188 96 (.goto 5) (5) 101 := ⟨by decide +kernel, by decide, by decide⟩
theorem D188_43 : decode (mB 188) 43 = .ok (.iload_n 3, 1) := by decide +kernel
theorem D188_44 : decode (mB 188) 44 = .ok (.aload_n 0, 1) := by decide +kernel
theorem D188_45 : GF 188 45 9 2 2 := ⟨26, true, by decide +kernel, by decide +kernel⟩
theorem D188_48 : GF 188 48 6 0 2 := ⟨124, false, by decide +kernel, by decide +kernel⟩
theorem D188_51 : decode (mB 188) 51 = .ok (.iconst 1, 1) := by decide +kernel
theorem D188_52 : decode (mB 188) 52 = .ok (.iload 5, 2) := by decide +kernel
theorem D188_54 : decode (mB 188) 54 = .ok (.ishl, 1) := by decide +kernel
theorem D188_55 : decode (mB 188) 55 = .ok (.iload_n 1, 1) := by decide +kernel
theorem D188_56 : CS 188 56 189 0 := ⟨.invokevirtual 359, by decide +kernel, by decide +kernel, by decide +kernel, by decide⟩
theorem D188_59 : CS 188 59 134 2 := ⟨.invokestatic 362, by decide +kernel, by decide +kernel, by decide +kernel, by decide⟩
theorem D188_62 : decode (mB 188) 62 = .ok (.iconst 1, 1) := by decide +kernel
theorem D188_63 : decode (mB 188) 63 = .ok (.isub, 1) := by decide +kernel
theorem D188_64 : decode (mB 188) 64 = .ok (.iadd, 1) := by decide +kernel
theorem D188_65 : decode (mB 188) 65 = .ok (.istore_n 3, 1) := by decide +kernel
theorem D188_66 : decode (mB 188) 66 = .ok (.iload 4, 2) := by decide +kernel
theorem D188_68 : decode (mB 188) 68 = .ok (.aload_n 0, 1) := by decide +kernel
theorem D188_69 : decode (mB 188) 69 = .ok (.iload 5, 2) := by decide +kernel
theorem D188_71 : decode (mB 188) 71 = .ok (.iload_n 1, 1) := by decide +kernel
theorem D188_72 : CS 188 72 190 0 := ⟨.invokevirtual 366, by decide +kernel, by decide +kernel, by decide +kernel, by decide⟩
theorem D188_75 : CS 188 75 134 2 := ⟨.invokestatic 362, by decide +kernel, by decide +kernel, by decide +kernel, by decide⟩
theorem D188_78 : MA 188 78 0 := ⟨346, by decide +kernel, by decide +kernel, by decide +kernel⟩
theorem D188_81 : decode (mB 188) 81 = .ok (.istore 4, 2) := by decide +kernel
theorem D188_83 : decode (mB 188) 83 = .ok (.iinc 5 1, 3) := by decide +kernel
theorem D188_86 : BR 188 86 (.goto (-58)) (-58) 28 := ⟨by decide +kernel, by decide, by decide⟩
theorem LC_blind_e (d : Nat) (a0 : Nat) (x1 : Int32) (x2 : Int32) (m : eM) (h_a0 : kd a0 = 9) : LC_blind (d + 1) a0 x1 x2 m = if x1 < 0 then (yI (-1 : Int32) m) else (if (180 : Int32) < x1 then (yI (-1 : Int32) m) else (bI (LC_isWhat d x2 m) fun v2 m1 => if ¬ v2 = 0 then (LC_blind_28 (d + 1) a0 x1 x2 (0 : Int32) (0 : Int32) (0 : Int32) m1) else (yI (-1 : Int32) m1))) := by
  unfold LC_blind
  refine (x_iload1 D188_0 rfl).trans ?_
  refine (x_iflt D188_1).trans (i_c ?_ ?_)
  · refine (x_iconst D188_18 (k := -1) (by decide)).trans ?_
    exact x_iret D188_19 M188.2.2.1
  · refine (x_iload1 D188_4 rfl).trans ?_
    refine (x_sipush D188_5 (k := 180) (by decide)).trans ?_
    refine (x_cgt D188_8).trans (i_c ?_ ?_)
    · refine (x_iconst D188_18 (k := -1) (by decide)).trans ?_
      exact x_iret D188_19 M188.2.2.1
    · refine (x_iload1 D188_11 rfl).trans ?_
      refine (x_cI D188_12 M125 (fun z => by cases z) (I125 _) rfl rfl (ok_s M125 (I125 _) rfl rfl)).trans (bI_c fun v2 m1 => ?_)
      refine (x_ifne D188_15).trans (i_c ?_ ?_)
      · refine (x_iconst D188_20 (k := 0) (by decide)).trans ?_
        refine (x_istore1 D188_21 (ls' := [.ref a0, .int x1, .int x2, .int (0 : Int32), eU, eU]) rfl rfl).trans ?_
        refine (x_iconst D188_22 (k := 0) (by decide)).trans ?_
        refine (x_istore2 D188_23 (ls' := [.ref a0, .int x1, .int x2, .int (0 : Int32), .int (0 : Int32), eU]) rfl rfl).trans ?_
        refine (x_iconst D188_25 (k := 0) (by decide)).trans ?_
        refine (x_istore2 D188_26 (ls' := [.ref a0, .int x1, .int x2, .int (0 : Int32), .int (0 : Int32), .int (0 : Int32)]) rfl rfl).trans ?_
        rfl
      · refine (x_iconst D188_18 (k := -1) (by decide)).trans ?_
        exact x_iret D188_19 M188.2.2.1
theorem LC_blind_28_e (d : Nat) (a0 : Nat) (x1 : Int32) (x2 : Int32) (x3 : Int32) (x4 : Int32) (x5 : Int32) (m : eM) (h_a0 : kd a0 = 9) : LC_blind_28 (d + 1) a0 x1 x2 x3 x4 x5 m = bR (gR m a0 2) fun r1 => gd r1 6 (bR (gR m r1 0) fun r3 => gd r3 4 (bI (Pa_people d r3 m) fun v6 m5 => if v6 ≤ x5 then (if ¬ x2 = 0 then (yI x4 m5) else (yI (x3 / (2 : Int32)) m5)) else (bR (gR m5 a0 2) fun r7 => gd r7 6 (bR (gR m5 r7 0) fun r9 => gd r9 4 (bI (Pa_near d r9 ((1 : Int32) <<< (x5 &&& 31)) x1 m5) fun v12 m11 => bI (In_bitCount d v12 m11) fun v14 m13 => bI (LC_crowd d a0 x5 x1 m13) fun v16 m15 => bI (In_bitCount d v16 m15) fun v18 m17 => LC_blind_28 (d + 1) a0 x1 x2 (x3 + (v14 - (1 : Int32))) (iMax x4 v18) (x5 + (1 : Int32)) m17))))) := by
  unfold LC_blind_28
  refine (x_iload2 D188_28 rfl).trans ?_
  refine (x_aload1 D188_30 rfl).trans ?_
  refine ((x_getR D188_31).trans (gd_t h_a0)).trans (bR_c fun r1 => ?_)
  refine (x_getR D188_34).trans (gd_c fun h2 => bR_c fun r3 => ?_)
  refine (x_cg D188_37 M178 rfl rfl).trans (gd_c fun h4 => ?_)
  refine (x_cI D188_37 M178 (fun z => by cases z) (I178 _) rfl rfl (ok_i M178 (I178 _) rfl rfl h4)).trans (bI_c fun v6 m5 => ?_)
  refine (x_cge D188_40).trans (i_c ?_ ?_)
  · refine (x_iload1 D188_89 rfl).trans ?_
    refine (x_ifne D188_90).trans (i_c ?_ ?_)
    · refine (x_iload2 D188_99 rfl).trans ?_
      exact x_iret D188_101 M188.2.2.1
    · refine (x_iload1 D188_93 rfl).trans ?_
      refine (x_iconst D188_94 (k := 2) (by decide)).trans ?_
      refine ((x_div D188_95).trans (if_neg (by decide))).trans ?_
      refine (x_goto D188_96).trans ?_
      exact x_iret D188_101 M188.2.2.1
  · refine (x_iload1 D188_43 rfl).trans ?_
    refine (x_aload1 D188_44 rfl).trans ?_
    refine ((x_getR D188_45).trans (gd_t h_a0)).trans (bR_c fun r7 => ?_)
    refine (x_getR D188_48).trans (gd_c fun h8 => bR_c fun r9 => ?_)
    refine (x_iconst D188_51 (k := 1) (by decide)).trans ?_
    refine (x_iload2 D188_52 rfl).trans ?_
    refine (x_ishl D188_54).trans ?_
    refine (x_iload1 D188_55 rfl).trans ?_
    refine (x_cg D188_56 M189 rfl rfl).trans (gd_c fun h10 => ?_)
    refine (x_cI D188_56 M189 (fun z => by cases z) (I189 _ _ _) rfl rfl (ok_i M189 (I189 _ _ _) rfl rfl h10)).trans (bI_c fun v12 m11 => ?_)
    refine (x_cI D188_59 M134 (fun z => by cases z) (I134 _) rfl rfl (ok_s M134 (I134 _) rfl rfl)).trans (bI_c fun v14 m13 => ?_)
    refine (x_iconst D188_62 (k := 1) (by decide)).trans ?_
    refine (x_isub D188_63).trans ?_
    refine (x_iadd D188_64).trans ?_
    refine (x_istore1 D188_65 (ls' := [.ref a0, .int x1, .int x2, .int (x3 + (v14 - (1 : Int32))), .int x4, .int x5]) rfl rfl).trans ?_
    refine (x_iload2 D188_66 rfl).trans ?_
    refine (x_aload1 D188_68 rfl).trans ?_
    refine (x_iload2 D188_69 rfl).trans ?_
    refine (x_iload1 D188_71 rfl).trans ?_
    refine (x_cI D188_72 M190 (fun z => by cases z) (I190 _ _ _) rfl rfl (ok_i M190 (I190 _ _ _) rfl rfl h_a0)).trans (bI_c fun v16 m15 => ?_)
    refine (x_cI D188_75 M134 (fun z => by cases z) (I134 _) rfl rfl (ok_s M134 (I134 _) rfl rfl)).trans (bI_c fun v18 m17 => ?_)
    refine (x_max D188_78 rfl).trans ?_
    refine (x_istore2 D188_81 (ls' := [.ref a0, .int x1, .int x2, .int (x3 + (v14 - (1 : Int32))), .int (iMax x4 v18), .int x5]) rfl rfl).trans ?_
    refine (x_iinc D188_83 rfl (k := 1) (by decide) (ls' := [.ref a0, .int x1, .int x2, .int (x3 + (v14 - (1 : Int32))), .int (iMax x4 v18), .int (x5 + (1 : Int32))]) rfl).trans ?_
    refine (x_goto D188_86).trans ?_
    rfl
theorem D190_0 : decode (mB 190) 0 = .ok (.iconst 1, 1) := by decide +kernel
theorem D190_1 : decode (mB 190) 1 = .ok (.iload_n 1, 1) := by decide +kernel
theorem D190_2 : decode (mB 190) 2 = .ok (.ishl, 1) := by decide +kernel
theorem D190_3 : decode (mB 190) 3 = .ok (.istore_n 3, 1) := by decide +kernel
theorem D190_4 : decode (mB 190) 4 = .ok (.iconst 0, 1) := by decide +kernel
theorem D190_5 : decode (mB 190) 5 = .ok (.istore 4, 2) := by decide +kernel
theorem D190_7 : decode (mB 190) 7 = .ok (.iload 4, 2) := by decide +kernel
theorem D190_9 : decode (mB 190) 9 = .ok (.bipush 6, 2) := by decide +kernel
theorem D190_11 : BR 190 11 (.if_icmp .ge 22) (22) 33 := ⟨by decide +kernel, by decide, by decide⟩
theorem D190_33 : decode (mB 190) 33 = .ok (.iload_n 3, 1) := by decide +kernel
theorem D190_34 : decode (mB 190) 34 = .ok (.ireturn, 1) := by decide +kernel
theorem D190_14 : decode (mB 190) 14 = .ok (.aload_n 0, 1) := by decide +kernel
theorem D190_15 : GF 190 15 9 2 2 := ⟨26, true, by decide +kernel, by decide +kernel⟩
theorem D190_18 : GF 190 18 6 0 2 := ⟨124, false, by decide +kernel, by decide +kernel⟩
theorem D190_21 : decode (mB 190) 21 = .ok (.iload_n 3, 1) := by decide +kernel
theorem D190_22 : decode (mB 190) 22 = .ok (.iload_n 2, 1) := by decide +kernel
theorem D190_23 : CS 190 23 189 0 := ⟨.invokevirtual 359, by decide +kernel, by decide +kernel, by decide +kernel, by decide⟩
theorem D190_26 : decode (mB 190) 26 = .ok (.istore_n 3, 1) := by decide +kernel
theorem D190_27 : decode (mB 190) 27 = .ok (.iinc 4 1, 3) := by decide +kernel
theorem D190_30 : BR 190 30 (.goto (-23)) (-23) 7 := ⟨by decide +kernel, by decide, by decide⟩
theorem LC_crowd_e (d : Nat) (a0 : Nat) (x1 : Int32) (x2 : Int32) (m : eM) (h_a0 : kd a0 = 9) : LC_crowd (d + 1) a0 x1 x2 m = LC_crowd_7 (d + 1) a0 x1 x2 ((1 : Int32) <<< (x1 &&& 31)) (0 : Int32) m := by
  unfold LC_crowd
  refine (x_iconst D190_0 (k := 1) (by decide)).trans ?_
  refine (x_iload1 D190_1 rfl).trans ?_
  refine (x_ishl D190_2).trans ?_
  refine (x_istore1 D190_3 (ls' := [.ref a0, .int x1, .int x2, .int ((1 : Int32) <<< (x1 &&& 31)), eU]) rfl rfl).trans ?_
  refine (x_iconst D190_4 (k := 0) (by decide)).trans ?_
  refine (x_istore2 D190_5 (ls' := [.ref a0, .int x1, .int x2, .int ((1 : Int32) <<< (x1 &&& 31)), .int (0 : Int32)]) rfl rfl).trans ?_
  rfl
theorem LC_crowd_7_e (d : Nat) (a0 : Nat) (x1 : Int32) (x2 : Int32) (x3 : Int32) (x4 : Int32) (m : eM) (h_a0 : kd a0 = 9) : LC_crowd_7 (d + 1) a0 x1 x2 x3 x4 m = if (6 : Int32) ≤ x4 then (yI x3 m) else (bR (gR m a0 2) fun r1 => gd r1 6 (bR (gR m r1 0) fun r3 => gd r3 4 (bI (Pa_near d r3 x3 x2 m) fun v6 m5 => LC_crowd_7 (d + 1) a0 x1 x2 v6 (x4 + (1 : Int32)) m5))) := by
  unfold LC_crowd_7
  refine (x_iload2 D190_7 rfl).trans ?_
  refine (x_bipush D190_9 (k := 6) (by decide)).trans ?_
  refine (x_cge D190_11).trans (i_c ?_ ?_)
  · refine (x_iload1 D190_33 rfl).trans ?_
    exact x_iret D190_34 M190.2.2.1
  · refine (x_aload1 D190_14 rfl).trans ?_
    refine ((x_getR D190_15).trans (gd_t h_a0)).trans (bR_c fun r1 => ?_)
    refine (x_getR D190_18).trans (gd_c fun h2 => bR_c fun r3 => ?_)
    refine (x_iload1 D190_21 rfl).trans ?_
    refine (x_iload1 D190_22 rfl).trans ?_
    refine (x_cg D190_23 M189 rfl rfl).trans (gd_c fun h4 => ?_)
    refine (x_cI D190_23 M189 (fun z => by cases z) (I189 _ _ _) rfl rfl (ok_i M189 (I189 _ _ _) rfl rfl h4)).trans (bI_c fun v6 m5 => ?_)
    refine (x_istore1 D190_26 (ls' := [.ref a0, .int x1, .int x2, .int v6, .int x4]) rfl rfl).trans ?_
    refine (x_iinc D190_27 rfl (k := 1) (by decide) (ls' := [.ref a0, .int x1, .int x2, .int v6, .int (x4 + (1 : Int32))]) rfl).trans ?_
    refine (x_goto D190_30).trans ?_
    rfl
theorem D191_0 : decode (mB 191) 0 = .ok (.iload_n 1, 1) := by decide +kernel
theorem D191_1 : decode (mB 191) 1 = .ok (.aload_n 0, 1) := by decide +kernel
theorem D191_2 : GF 191 2 9 2 2 := ⟨26, true, by decide +kernel, by decide +kernel⟩
theorem D191_5 : GF 191 5 6 0 2 := ⟨124, false, by decide +kernel, by decide +kernel⟩
theorem D191_8 : CS 191 8 178 0 := ⟨.invokevirtual 310, by decide +kernel, by decide +kernel, by decide +kernel, by decide⟩
theorem D191_11 : CS 191 11 182 2 := ⟨.invokestatic 322, by decide +kernel, by decide +kernel, by decide +kernel, by decide⟩
theorem D191_14 : BR 191 14 (.ifCond .eq 24) (24) 38 := ⟨by decide +kernel, by decide, by decide⟩
theorem D191_38 : decode (mB 191) 38 = .ok (.iconst (-1), 1) := by decide +kernel
theorem D191_39 : decode (mB 191) 39 = .ok (.ireturn, 1) := by decide +kernel
theorem D191_17 : decode (mB 191) 17 = .ok (.aload_n 0, 1) := by decide +kernel
theorem D191_18 : GF 191 18 9 2 2 := ⟨26, true, by decide +kernel, by decide +kernel⟩
theorem D191_21 : GF 191 21 6 0 2 := ⟨124, false, by decide +kernel, by decide +kernel⟩
theorem D191_24 : decode (mB 191) 24 = .ok (.iload_n 1, 1) := by decide +kernel
theorem D191_25 : decode (mB 191) 25 = .ok (.aload_n 0, 1) := by decide +kernel
theorem D191_26 : GF 191 26 9 2 2 := ⟨26, true, by decide +kernel, by decide +kernel⟩
theorem D191_29 : GF 191 29 6 5 0 := ⟨132, false, by decide +kernel, by decide +kernel⟩
theorem D191_32 : CS 191 32 192 0 := ⟨.invokevirtual 369, by decide +kernel, by decide +kernel, by decide +kernel, by decide⟩
theorem D191_35 : BR 191 35 (.goto 4) (4) 39 := ⟨by decide +kernel, by decide, by decide⟩
theorem LC_told_e (d : Nat) (a0 : Nat) (x1 : Int32) (m : eM) (h_a0 : kd a0 = 9) : LC_told (d + 1) a0 x1 m = bR (gR m a0 2) fun r1 => gd r1 6 (bR (gR m r1 0) fun r3 => gd r3 4 (bI (Pa_people d r3 m) fun v6 m5 => bI (LC_isSet d x1 v6 m5) fun v8 m7 => if v8 = 0 then (yI (-1 : Int32) m7) else (bR (gR m7 a0 2) fun r9 => gd r9 6 (bR (gR m7 r9 0) fun r11 => bR (gR m7 a0 2) fun r12 => gd r12 6 (gd r11 4 (bI (Pa_factsTold d r11 x1 (gI m7 r12 5) m7) fun v16 m15 => yI v16 m15)))))) := by
  unfold LC_told
  refine (x_iload1 D191_0 rfl).trans ?_
  refine (x_aload1 D191_1 rfl).trans ?_
  refine ((x_getR D191_2).trans (gd_t h_a0)).trans (bR_c fun r1 => ?_)
  refine (x_getR D191_5).trans (gd_c fun h2 => bR_c fun r3 => ?_)
  refine (x_cg D191_8 M178 rfl rfl).trans (gd_c fun h4 => ?_)
  refine (x_cI D191_8 M178 (fun z => by cases z) (I178 _) rfl rfl (ok_i M178 (I178 _) rfl rfl h4)).trans (bI_c fun v6 m5 => ?_)
  refine (x_cI D191_11 M182 (fun z => by cases z) (I182 _ _) rfl rfl (ok_s M182 (I182 _ _) rfl rfl)).trans (bI_c fun v8 m7 => ?_)
  refine (x_ifeq D191_14).trans (i_c ?_ ?_)
  · refine (x_iconst D191_38 (k := -1) (by decide)).trans ?_
    exact x_iret D191_39 M191.2.2.1
  · refine (x_aload1 D191_17 rfl).trans ?_
    refine ((x_getR D191_18).trans (gd_t h_a0)).trans (bR_c fun r9 => ?_)
    refine (x_getR D191_21).trans (gd_c fun h10 => bR_c fun r11 => ?_)
    refine (x_iload1 D191_24 rfl).trans ?_
    refine (x_aload1 D191_25 rfl).trans ?_
    refine ((x_getR D191_26).trans (gd_t h_a0)).trans (bR_c fun r12 => ?_)
    refine (x_getI D191_29).trans (gd_c fun h13 => ?_)
    refine (x_cg D191_32 M192 rfl rfl).trans (gd_c fun h14 => ?_)
    refine (x_cI D191_32 M192 (fun z => by cases z) (I192 _ _ _) rfl rfl (ok_i M192 (I192 _ _ _) rfl rfl h14)).trans (bI_c fun v16 m15 => ?_)
    refine (x_goto D191_35).trans ?_
    exact x_iret D191_39 M191.2.2.1
theorem D193_0 : decode (mB 193) 0 = .ok (.aload_n 0, 1) := by decide +kernel
theorem D193_1 : GF 193 1 9 2 2 := ⟨26, true, by decide +kernel, by decide +kernel⟩
theorem D193_4 : GF 193 4 6 0 2 := ⟨124, false, by decide +kernel, by decide +kernel⟩
theorem D193_7 : decode (mB 193) 7 = .ok (.iload_n 1, 1) := by decide +kernel
theorem D193_8 : CS 193 8 120 0 := ⟨.invokevirtual 191, by decide +kernel, by decide +kernel, by decide +kernel, by decide⟩
theorem D193_11 : BR 193 11 (.ifCond .eq 10) (10) 21 := ⟨by decide +kernel, by decide, by decide⟩
theorem D193_21 : decode (mB 193) 21 = .ok (.iconst (-1), 1) := by decide +kernel
theorem D193_22 : decode (mB 193) 22 = .ok (.ireturn, 1) := by decide +kernel
theorem D193_14 : decode (mB 193) 14 = .ok (.iload_n 2, 1) := by decide +kernel
theorem D193_15 : CS 193 15 125 2 := ⟨.invokestatic 201, by decide +kernel, by decide +kernel, by decide +kernel, by decide⟩
theorem D193_18 : BR 193 18 (.ifCond .ne 5) (5) 23 := ⟨by decide +kernel, by decide, by decide⟩
theorem D193_23 : decode (mB 193) 23 = .ok (.iconst (-1), 1) := by decide +kernel
theorem D193_24 : decode (mB 193) 24 = .ok (.istore_n 3, 1) := by decide +kernel
theorem D193_25 : decode (mB 193) 25 = .ok (.iconst 0, 1) := by decide +kernel
theorem D193_26 : decode (mB 193) 26 = .ok (.istore 4, 2) := by decide +kernel
theorem D193_28 : decode (mB 193) 28 = .ok (.iload 4, 2) := by decide +kernel
theorem D193_30 : decode (mB 193) 30 = .ok (.iconst 1, 1) := by decide +kernel
theorem D193_31 : decode (mB 193) 31 = .ok (.aload_n 0, 1) := by decide +kernel
theorem D193_32 : GF 193 32 9 2 2 := ⟨26, true, by decide +kernel, by decide +kernel⟩
theorem D193_35 : GF 193 35 6 0 2 := ⟨124, false, by decide +kernel, by decide +kernel⟩
theorem D193_38 : CS 193 38 178 0 := ⟨.invokevirtual 310, by decide +kernel, by decide +kernel, by decide +kernel, by decide⟩
theorem D193_41 : decode (mB 193) 41 = .ok (.ishl, 1) := by decide +kernel
theorem D193_42 : BR 193 42 (.if_icmp .ge 48) (48) 90 := ⟨by decide +kernel, by decide, by decide⟩
theorem D193_90 : decode (mB 193) 90 = .ok (.iload_n 3, 1) := by decide +kernel
theorem D193_91 : decode (mB 193) 91 = .ok (.iload_n 2, 1) := by decide +kernel
theorem D193_92 : CS 193 92 135 2 := ⟨.invokestatic 222, by decide +kernel, by decide +kernel, by decide +kernel, by decide⟩
theorem D193_95 : decode (mB 193) 95 = .ok (.ireturn, 1) := by decide +kernel
theorem D193_45 : decode (mB 193) 45 = .ok (.iload 4, 2) := by decide +kernel
theorem D193_47 : decode (mB 193) 47 = .ok (.iload_n 3, 1) := by decide +kernel
theorem D193_48 : CS 193 48 133 2 := ⟨.invokestatic 328, by decide +kernel, by decide +kernel, by decide +kernel, by decide⟩
theorem D193_51 : BR 193 51 (.ifCond .eq 33) (33) 84 := ⟨by decide +kernel, by decide, by decide⟩
theorem D193_84 : decode (mB 193) 84 = .ok (.iinc 4 1, 3) := by decide +kernel
theorem D193_87 : BR 193 87 (.goto (-59)) (-59) 28 := ⟨by decide +kernel, by decide, by decide⟩
theorem D193_54 : decode (mB 193) 54 = .ok (.aload_n 0, 1) := by decide +kernel
theorem D193_55 : GF 193 55 9 2 2 := ⟨26, true, by decide +kernel, by decide +kernel⟩
theorem D193_58 : GF 193 58 6 0 2 := ⟨124, false, by decide +kernel, by decide +kernel⟩
theorem D193_61 : decode (mB 193) 61 = .ok (.iload 4, 2) := by decide +kernel
theorem D193_63 : decode (mB 193) 63 = .ok (.aload_n 0, 1) := by decide +kernel
theorem D193_64 : GF 193 64 9 2 2 := ⟨26, true, by decide +kernel, by decide +kernel⟩
theorem D193_67 : GF 193 67 6 5 0 := ⟨132, false, by decide +kernel, by decide +kernel⟩
theorem D193_70 : CS 193 70 192 0 := ⟨.invokevirtual 369, by decide +kernel, by decide +kernel, by decide +kernel, by decide⟩
theorem D193_73 : decode (mB 193) 73 = .ok (.iload_n 1, 1) := by decide +kernel
theorem D193_74 : decode (mB 193) 74 = .ok (.ishr, 1) := by decide +kernel
theorem D193_75 : decode (mB 193) 75 = .ok (.iconst 1, 1) := by decide +kernel
theorem D193_76 : decode (mB 193) 76 = .ok (.iand, 1) := by decide +kernel
theorem D193_77 : decode (mB 193) 77 = .ok (.iconst 1, 1) := by decide +kernel
theorem D193_78 : BR 193 78 (.if_icmp .ne 6) (6) 84 := ⟨by decide +kernel, by decide, by decide⟩
theorem D193_81 : decode (mB 193) 81 = .ok (.iload 4, 2) := by decide +kernel
theorem D193_83 : decode (mB 193) 83 = .ok (.istore_n 3, 1) := by decide +kernel
theorem LC_fewest_e (d : Nat) (a0 : Nat) (x1 : Int32) (x2 : Int32) (m : eM) (h_a0 : kd a0 = 9) : LC_fewest (d + 1) a0 x1 x2 m = bR (gR m a0 2) fun r1 => gd r1 6 (bR (gR m r1 0) fun r3 => gd r3 4 (bI (Pa_isFact d r3 x1 m) fun v6 m5 => if v6 = 0 then (yI (-1 : Int32) m5) else (bI (LC_isWhat d x2 m5) fun v8 m7 => if ¬ v8 = 0 then (LC_fewest_28 (d + 1) a0 x1 x2 (-1 : Int32) (0 : Int32) m7) else (yI (-1 : Int32) m7)))) := by
  unfold LC_fewest
  refine (x_aload1 D193_0 rfl).trans ?_
  refine ((x_getR D193_1).trans (gd_t h_a0)).trans (bR_c fun r1 => ?_)
  refine (x_getR D193_4).trans (gd_c fun h2 => bR_c fun r3 => ?_)
  refine (x_iload1 D193_7 rfl).trans ?_
  refine (x_cg D193_8 M120 rfl rfl).trans (gd_c fun h4 => ?_)
  refine (x_cI D193_8 M120 (fun z => by cases z) (I120 _ _) rfl rfl (ok_i M120 (I120 _ _) rfl rfl h4)).trans (bI_c fun v6 m5 => ?_)
  refine (x_ifeq D193_11).trans (i_c ?_ ?_)
  · refine (x_iconst D193_21 (k := -1) (by decide)).trans ?_
    exact x_iret D193_22 M193.2.2.1
  · refine (x_iload1 D193_14 rfl).trans ?_
    refine (x_cI D193_15 M125 (fun z => by cases z) (I125 _) rfl rfl (ok_s M125 (I125 _) rfl rfl)).trans (bI_c fun v8 m7 => ?_)
    refine (x_ifne D193_18).trans (i_c ?_ ?_)
    · refine (x_iconst D193_23 (k := -1) (by decide)).trans ?_
      refine (x_istore1 D193_24 (ls' := [.ref a0, .int x1, .int x2, .int (-1 : Int32), eU]) rfl rfl).trans ?_
      refine (x_iconst D193_25 (k := 0) (by decide)).trans ?_
      refine (x_istore2 D193_26 (ls' := [.ref a0, .int x1, .int x2, .int (-1 : Int32), .int (0 : Int32)]) rfl rfl).trans ?_
      rfl
    · refine (x_iconst D193_21 (k := -1) (by decide)).trans ?_
      exact x_iret D193_22 M193.2.2.1
theorem LC_fewest_28_e (d : Nat) (a0 : Nat) (x1 : Int32) (x2 : Int32) (x3 : Int32) (x4 : Int32) (m : eM) (h_a0 : kd a0 = 9) : LC_fewest_28 (d + 1) a0 x1 x2 x3 x4 m = bR (gR m a0 2) fun r1 => gd r1 6 (bR (gR m r1 0) fun r3 => gd r3 4 (bI (Pa_people d r3 m) fun v6 m5 => if ((1 : Int32) <<< (v6 &&& 31)) ≤ x4 then (bI (LC_sizeOrSet d x3 x2 m5) fun v8 m7 => yI v8 m7) else (bI (LC_isFewer d x4 x3 m5) fun v10 m9 => if v10 = 0 then (LC_fewest_28 (d + 1) a0 x1 x2 x3 (x4 + (1 : Int32)) m9) else (bR (gR m9 a0 2) fun r11 => gd r11 6 (bR (gR m9 r11 0) fun r13 => bR (gR m9 a0 2) fun r14 => gd r14 6 (gd r13 4 (bI (Pa_factsTold d r13 x4 (gI m9 r14 5) m9) fun v18 m17 => if ¬ ((v18 >>> (x1 &&& 31)) &&& (1 : Int32)) = (1 : Int32) then (LC_fewest_28 (d + 1) a0 x1 x2 x3 (x4 + (1 : Int32)) m17) else (LC_fewest_28 (d + 1) a0 x1 x2 x4 (x4 + (1 : Int32)) m17)))))))) := by
  unfold LC_fewest_28
  refine (x_iload2 D193_28 rfl).trans ?_
  refine (x_iconst D193_30 (k := 1) (by decide)).trans ?_
  refine (x_aload1 D193_31 rfl).trans ?_
  refine ((x_getR D193_32).trans (gd_t h_a0)).trans (bR_c fun r1 => ?_)
  refine (x_getR D193_35).trans (gd_c fun h2 => bR_c fun r3 => ?_)
  refine (x_cg D193_38 M178 rfl rfl).trans (gd_c fun h4 => ?_)
  refine (x_cI D193_38 M178 (fun z => by cases z) (I178 _) rfl rfl (ok_i M178 (I178 _) rfl rfl h4)).trans (bI_c fun v6 m5 => ?_)
  refine (x_ishl D193_41).trans ?_
  refine (x_cge D193_42).trans (i_c ?_ ?_)
  · refine (x_iload1 D193_90 rfl).trans ?_
    refine (x_iload1 D193_91 rfl).trans ?_
    refine (x_cI D193_92 M135 (fun z => by cases z) (I135 _ _) rfl rfl (ok_s M135 (I135 _ _) rfl rfl)).trans (bI_c fun v8 m7 => ?_)
    exact x_iret D193_95 M193.2.2.1
  · refine (x_iload2 D193_45 rfl).trans ?_
    refine (x_iload1 D193_47 rfl).trans ?_
    refine (x_cI D193_48 M133 (fun z => by cases z) (I133 _ _) rfl rfl (ok_s M133 (I133 _ _) rfl rfl)).trans (bI_c fun v10 m9 => ?_)
    refine (x_ifeq D193_51).trans (i_c ?_ ?_)
    · refine (x_iinc D193_84 rfl (k := 1) (by decide) (ls' := [.ref a0, .int x1, .int x2, .int x3, .int (x4 + (1 : Int32))]) rfl).trans ?_
      refine (x_goto D193_87).trans ?_
      rfl
    · refine (x_aload1 D193_54 rfl).trans ?_
      refine ((x_getR D193_55).trans (gd_t h_a0)).trans (bR_c fun r11 => ?_)
      refine (x_getR D193_58).trans (gd_c fun h12 => bR_c fun r13 => ?_)
      refine (x_iload2 D193_61 rfl).trans ?_
      refine (x_aload1 D193_63 rfl).trans ?_
      refine ((x_getR D193_64).trans (gd_t h_a0)).trans (bR_c fun r14 => ?_)
      refine (x_getI D193_67).trans (gd_c fun h15 => ?_)
      refine (x_cg D193_70 M192 rfl rfl).trans (gd_c fun h16 => ?_)
      refine (x_cI D193_70 M192 (fun z => by cases z) (I192 _ _ _) rfl rfl (ok_i M192 (I192 _ _ _) rfl rfl h16)).trans (bI_c fun v18 m17 => ?_)
      refine (x_iload1 D193_73 rfl).trans ?_
      refine (x_ishr D193_74).trans ?_
      refine (x_iconst D193_75 (k := 1) (by decide)).trans ?_
      refine (x_iand D193_76).trans ?_
      refine (x_iconst D193_77 (k := 1) (by decide)).trans ?_
      refine (x_cne D193_78).trans (i_c ?_ ?_)
      · refine (x_iinc D193_84 rfl (k := 1) (by decide) (ls' := [.ref a0, .int x1, .int x2, .int x3, .int (x4 + (1 : Int32))]) rfl).trans ?_
        refine (x_goto D193_87).trans ?_
        rfl
      · refine (x_iload2 D193_81 rfl).trans ?_
        refine (x_istore1 D193_83 (ls' := [.ref a0, .int x1, .int x2, .int x4, .int x4]) rfl rfl).trans ?_
        refine (x_iinc D193_84 rfl (k := 1) (by decide) (ls' := [.ref a0, .int x1, .int x2, .int x4, .int (x4 + (1 : Int32))]) rfl).trans ?_
        refine (x_goto D193_87).trans ?_
        rfl
theorem D194_0 : decode (mB 194) 0 = .ok (.aload_n 0, 1) := by decide +kernel
theorem D194_1 : GF 194 1 9 2 2 := ⟨26, true, by decide +kernel, by decide +kernel⟩
theorem D194_4 : GF 194 4 6 0 2 := ⟨124, false, by decide +kernel, by decide +kernel⟩
theorem D194_7 : decode (mB 194) 7 = .ok (.iload_n 1, 1) := by decide +kernel
theorem D194_8 : CS 194 8 68 0 := ⟨.invokevirtual 283, by decide +kernel, by decide +kernel, by decide +kernel, by decide⟩
theorem D194_11 : BR 194 11 (.ifCond .ne 5) (5) 16 := ⟨by decide +kernel, by decide, by decide⟩
theorem D194_16 : decode (mB 194) 16 = .ok (.iload_n 2, 1) := by decide +kernel
theorem D194_17 : TB 194 17 80 (0) (2) [44, 56, 68] := ⟨#[27, 39, 51], 63, 27, by decide +kernel, by decide +kernel⟩
theorem D194_44 : decode (mB 194) 44 = .ok (.aload_n 0, 1) := by decide +kernel
theorem D194_45 : GF 194 45 9 2 2 := ⟨26, true, by decide +kernel, by decide +kernel⟩
theorem D194_48 : GF 194 48 6 0 2 := ⟨124, false, by decide +kernel, by decide +kernel⟩
theorem D194_51 : decode (mB 194) 51 = .ok (.iload_n 1, 1) := by decide +kernel
theorem D194_52 : CS 194 52 195 0 := ⟨.invokevirtual 372, by decide +kernel, by decide +kernel, by decide +kernel, by decide⟩
theorem D194_55 : decode (mB 194) 55 = .ok (.ireturn, 1) := by decide +kernel
theorem D194_56 : decode (mB 194) 56 = .ok (.aload_n 0, 1) := by decide +kernel
theorem D194_57 : GF 194 57 9 2 2 := ⟨26, true, by decide +kernel, by decide +kernel⟩
theorem D194_60 : GF 194 60 6 0 2 := ⟨124, false, by decide +kernel, by decide +kernel⟩
theorem D194_63 : decode (mB 194) 63 = .ok (.iload_n 1, 1) := by decide +kernel
theorem D194_64 : CS 194 64 109 0 := ⟨.invokevirtual 352, by decide +kernel, by decide +kernel, by decide +kernel, by decide⟩
theorem D194_67 : decode (mB 194) 67 = .ok (.ireturn, 1) := by decide +kernel
theorem D194_68 : decode (mB 194) 68 = .ok (.aload_n 0, 1) := by decide +kernel
theorem D194_69 : GF 194 69 9 2 2 := ⟨26, true, by decide +kernel, by decide +kernel⟩
theorem D194_72 : GF 194 72 6 0 2 := ⟨124, false, by decide +kernel, by decide +kernel⟩
theorem D194_75 : decode (mB 194) 75 = .ok (.iload_n 1, 1) := by decide +kernel
theorem D194_76 : CS 194 76 82 0 := ⟨.invokevirtual 237, by decide +kernel, by decide +kernel, by decide +kernel, by decide⟩
theorem D194_79 : decode (mB 194) 79 = .ok (.ireturn, 1) := by decide +kernel
theorem D194_80 : decode (mB 194) 80 = .ok (.iconst (-1), 1) := by decide +kernel
theorem D194_81 : decode (mB 194) 81 = .ok (.ireturn, 1) := by decide +kernel
theorem D194_14 : decode (mB 194) 14 = .ok (.iconst (-1), 1) := by decide +kernel
theorem D194_15 : decode (mB 194) 15 = .ok (.ireturn, 1) := by decide +kernel
theorem LC_person_e (d : Nat) (a0 : Nat) (x1 : Int32) (x2 : Int32) (m : eM) (h_a0 : kd a0 = 9) : LC_person (d + 1) a0 x1 x2 m = bR (gR m a0 2) fun r1 => gd r1 6 (bR (gR m r1 0) fun r3 => gd r3 4 (bI (Pa_isPerson d r3 x1 m) fun v6 m5 => if ¬ v6 = 0 then (tsw (0 : Int32) [bR (gR m5 a0 2) fun r7 => gd r7 6 (bR (gR m5 r7 0) fun r9 => gd r9 4 (bI (Pa_home d r9 x1 m5) fun v12 m11 => yI v12 m11)), bR (gR m5 a0 2) fun r13 => gd r13 6 (bR (gR m5 r13 0) fun r15 => gd r15 4 (bI (Pa_bearing d r15 x1 m5) fun v18 m17 => yI v18 m17)), bR (gR m5 a0 2) fun r19 => gd r19 6 (bR (gR m5 r19 0) fun r21 => gd r21 4 (bI (Pa_known d r21 x1 m5) fun v24 m23 => yI v24 m23))] (yI (-1 : Int32) m5) x2) else (yI (-1 : Int32) m5))) := by
  unfold LC_person
  refine (x_aload1 D194_0 rfl).trans ?_
  refine ((x_getR D194_1).trans (gd_t h_a0)).trans (bR_c fun r1 => ?_)
  refine (x_getR D194_4).trans (gd_c fun h2 => bR_c fun r3 => ?_)
  refine (x_iload1 D194_7 rfl).trans ?_
  refine (x_cg D194_8 M68 rfl rfl).trans (gd_c fun h4 => ?_)
  refine (x_cI D194_8 M68 (fun z => by cases z) (I68 _ _) rfl rfl (ok_i M68 (I68 _ _) rfl rfl h4)).trans (bI_c fun v6 m5 => ?_)
  refine (x_ifne D194_11).trans (i_c ?_ ?_)
  · refine (x_iload1 D194_16 rfl).trans ?_
    refine (x_tab D194_17 (k := 0) (by decide)).trans ?_
    refine tsw_c ?_ ?_
    · refine (x_aload1 D194_44 rfl).trans ?_
      refine ((x_getR D194_45).trans (gd_t h_a0)).trans (bR_c fun r7 => ?_)
      refine (x_getR D194_48).trans (gd_c fun h8 => bR_c fun r9 => ?_)
      refine (x_iload1 D194_51 rfl).trans ?_
      refine (x_cg D194_52 M195 rfl rfl).trans (gd_c fun h10 => ?_)
      refine (x_cI D194_52 M195 (fun z => by cases z) (I195 _ _) rfl rfl (ok_i M195 (I195 _ _) rfl rfl h10)).trans (bI_c fun v12 m11 => ?_)
      exact x_iret D194_55 M194.2.2.1
    refine tsw_c ?_ ?_
    · refine (x_aload1 D194_56 rfl).trans ?_
      refine ((x_getR D194_57).trans (gd_t h_a0)).trans (bR_c fun r13 => ?_)
      refine (x_getR D194_60).trans (gd_c fun h14 => bR_c fun r15 => ?_)
      refine (x_iload1 D194_63 rfl).trans ?_
      refine (x_cg D194_64 M109 rfl rfl).trans (gd_c fun h16 => ?_)
      refine (x_cI D194_64 M109 (fun z => by cases z) (I109 _ _) rfl rfl (ok_i M109 (I109 _ _) rfl rfl h16)).trans (bI_c fun v18 m17 => ?_)
      exact x_iret D194_67 M194.2.2.1
    refine tsw_c ?_ ?_
    · refine (x_aload1 D194_68 rfl).trans ?_
      refine ((x_getR D194_69).trans (gd_t h_a0)).trans (bR_c fun r19 => ?_)
      refine (x_getR D194_72).trans (gd_c fun h20 => bR_c fun r21 => ?_)
      refine (x_iload1 D194_75 rfl).trans ?_
      refine (x_cg D194_76 M82 rfl rfl).trans (gd_c fun h22 => ?_)
      refine (x_cI D194_76 M82 (fun z => by cases z) (I82 _ _) rfl rfl (ok_i M82 (I82 _ _) rfl rfl h22)).trans (bI_c fun v24 m23 => ?_)
      exact x_iret D194_79 M194.2.2.1
    refine tsw_d ?_
    refine (x_iconst D194_80 (k := -1) (by decide)).trans ?_
    exact x_iret D194_81 M194.2.2.1
  · refine (x_iconst D194_14 (k := -1) (by decide)).trans ?_
    exact x_iret D194_15 M194.2.2.1
theorem D196_0 : decode (mB 196) 0 = .ok (.iload_n 1, 1) := by decide +kernel
theorem D196_1 : BR 196 1 (.ifCond .lt 30) (30) 31 := ⟨by decide +kernel, by decide, by decide⟩
theorem D196_31 : decode (mB 196) 31 = .ok (.iconst 0, 1) := by decide +kernel
theorem D196_32 : decode (mB 196) 32 = .ok (.ireturn, 1) := by decide +kernel
theorem D196_4 : decode (mB 196) 4 = .ok (.iload_n 1, 1) := by decide +kernel
theorem D196_5 : decode (mB 196) 5 = .ok (.aload_n 0, 1) := by decide +kernel
theorem D196_6 : GF 196 6 9 3 2 := ⟨30, true, by decide +kernel, by decide +kernel⟩
theorem D196_9 : decode (mB 196) 9 = .ok (.arraylength, 1) := by decide +kernel
theorem D196_10 : BR 196 10 (.if_icmp .ge 21) (21) 31 := ⟨by decide +kernel, by decide, by decide⟩
theorem D196_13 : decode (mB 196) 13 = .ok (.iload_n 1, 1) := by decide +kernel
theorem D196_14 : decode (mB 196) 14 = .ok (.aload_n 0, 1) := by decide +kernel
theorem D196_15 : GF 196 15 9 4 2 := ⟨34, true, by decide +kernel, by decide +kernel⟩
theorem D196_18 : decode (mB 196) 18 = .ok (.arraylength, 1) := by decide +kernel
theorem D196_19 : BR 196 19 (.if_icmp .ge 12) (12) 31 := ⟨by decide +kernel, by decide, by decide⟩
theorem D196_22 : decode (mB 196) 22 = .ok (.aload_n 0, 1) := by decide +kernel
theorem D196_23 : GF 196 23 9 3 2 := ⟨30, true, by decide +kernel, by decide +kernel⟩
theorem D196_26 : decode (mB 196) 26 = .ok (.iload_n 1, 1) := by decide +kernel
theorem D196_27 : decode (mB 196) 27 = .ok (.aaload, 1) := by decide +kernel
theorem D196_28 : BR 196 28 (.ifnonnull 5) (5) 33 := ⟨by decide +kernel, by decide, by decide⟩
theorem D196_33 : decode (mB 196) 33 = .ok (.iload_n 2, 1) := by decide +kernel
theorem D196_34 : BR 196 34 (.ifCond .ne 25) (25) 59 := ⟨by decide +kernel, by decide, by decide⟩
theorem D196_59 : decode (mB 196) 59 = .ok (.aload_n 0, 1) := by decide +kernel
theorem D196_60 : GF 196 60 9 4 2 := ⟨34, true, by decide +kernel, by decide +kernel⟩
theorem D196_63 : decode (mB 196) 63 = .ok (.iload_n 1, 1) := by decide +kernel
theorem D196_64 : decode (mB 196) 64 = .ok (.baload, 1) := by decide +kernel
theorem D196_65 : BR 196 65 (.ifCond .eq 16) (16) 81 := ⟨by decide +kernel, by decide, by decide⟩
theorem D196_81 : decode (mB 196) 81 = .ok (.aload_n 0, 1) := by decide +kernel
theorem D196_82 : GF 196 82 9 4 2 := ⟨34, true, by decide +kernel, by decide +kernel⟩
theorem D196_85 : decode (mB 196) 85 = .ok (.iload_n 1, 1) := by decide +kernel
theorem D196_86 : decode (mB 196) 86 = .ok (.baload, 1) := by decide +kernel
theorem D196_87 : decode (mB 196) 87 = .ok (.ireturn, 1) := by decide +kernel
theorem D196_68 : decode (mB 196) 68 = .ok (.aload_n 0, 1) := by decide +kernel
theorem D196_69 : GF 196 69 9 2 2 := ⟨26, true, by decide +kernel, by decide +kernel⟩
theorem D196_72 : decode (mB 196) 72 = .ok (.aload_n 0, 1) := by decide +kernel
theorem D196_73 : GF 196 73 9 3 2 := ⟨30, true, by decide +kernel, by decide +kernel⟩
theorem D196_76 : decode (mB 196) 76 = .ok (.iload_n 1, 1) := by decide +kernel
theorem D196_77 : decode (mB 196) 77 = .ok (.aaload, 1) := by decide +kernel
theorem D196_78 : CS 196 78 197 0 := ⟨.invokevirtual 375, by decide +kernel, by decide +kernel, by decide +kernel, by decide⟩
theorem D196_37 : decode (mB 196) 37 = .ok (.aload_n 0, 1) := by decide +kernel
theorem D196_38 : GF 196 38 9 3 2 := ⟨30, true, by decide +kernel, by decide +kernel⟩
theorem D196_41 : decode (mB 196) 41 = .ok (.iload_n 1, 1) := by decide +kernel
theorem D196_42 : decode (mB 196) 42 = .ok (.aaload, 1) := by decide +kernel
theorem D196_43 : decode (mB 196) 43 = .ok (.aload_n 0, 1) := by decide +kernel
theorem D196_44 : GF 196 44 9 2 2 := ⟨26, true, by decide +kernel, by decide +kernel⟩
theorem D196_47 : CS 196 47 197 0 := ⟨.invokevirtual 375, by decide +kernel, by decide +kernel, by decide +kernel, by decide⟩
theorem D196_50 : decode (mB 196) 50 = .ok (.aload_n 0, 1) := by decide +kernel
theorem D196_51 : GF 196 51 9 4 2 := ⟨34, true, by decide +kernel, by decide +kernel⟩
theorem D196_54 : decode (mB 196) 54 = .ok (.iload_n 1, 1) := by decide +kernel
theorem D196_55 : decode (mB 196) 55 = .ok (.iconst 1, 1) := by decide +kernel
theorem D196_56 : decode (mB 196) 56 = .ok (.bastore, 1) := by decide +kernel
theorem D196_57 : decode (mB 196) 57 = .ok (.iconst 1, 1) := by decide +kernel
theorem D196_58 : decode (mB 196) 58 = .ok (.ireturn, 1) := by decide +kernel
theorem LC_mark_e (d : Nat) (a0 : Nat) (x1 : Int32) (x2 : Int32) (m : eM) (h_a0 : kd a0 = 9) : LC_mark (d + 1) a0 x1 x2 m = if x1 < 0 then (yI (0 : Int32) m) else (bR (gR m a0 3) fun r1 => gl r1 (if ((aln m r1).toInt32) ≤ x1 then (yI (0 : Int32) m) else (bR (gR m a0 4) fun r2 => gl r2 (if ((aln m r2).toInt32) ≤ x1 then (yI (0 : Int32) m) else (bR (gR m a0 3) fun r3 => ga m r3 24 x1 (bR (gR m r3 x1.toNatClampNeg) fun r4 => if ¬ x2 = 0 then (bR (gR m a0 4) fun r5 => ga m r5 23 x1 (if (gI m r5 x1.toNatClampNeg) = 0 then (bR (gR m a0 4) fun r6 => ga m r6 23 x1 (yB (gI m r6 x1.toNatClampNeg) m)) else (bR (gR m a0 2) fun r7 => bR (gR m a0 3) fun r8 => ga m r8 24 x1 (bR (gR m r8 x1.toNatClampNeg) fun r9 => gd r7 6 (bV (St_copy d r7 r9 m) fun m11 => bR (gR m11 a0 4) fun r12 => ga m11 r12 23 x1 (yB (gI m11 r12 x1.toNatClampNeg) m11)))))) else (bR (gR m a0 3) fun r13 => ga m r13 24 x1 (bR (gR m r13 x1.toNatClampNeg) fun r14 => bR (gR m a0 2) fun r15 => gd r14 6 (bV (St_copy d r14 r15 m) fun m17 => bR (gR m17 a0 4) fun r18 => gw m17 r18 23 x1 (mI m17 r18 x1.toNatClampNeg ((1 : Int32) &&& 1) fun m19 => yI (1 : Int32) m19)))))))))) := by
  unfold LC_mark
  refine (x_iload1 D196_0 rfl).trans ?_
  refine (x_iflt D196_1).trans (i_c ?_ ?_)
  · refine (x_iconst D196_31 (k := 0) (by decide)).trans ?_
    exact (x_bret D196_32 M196.2.2.1).trans yB0
  · refine (x_iload1 D196_4 rfl).trans ?_
    refine (x_aload1 D196_5 rfl).trans ?_
    refine ((x_getR D196_6).trans (gd_t h_a0)).trans (bR_c fun r1 => ?_)
    refine (x_alen D196_9).trans (gl_c ?_)
    refine (x_cge D196_10).trans (i_c ?_ ?_)
    · refine (x_iconst D196_31 (k := 0) (by decide)).trans ?_
      exact (x_bret D196_32 M196.2.2.1).trans yB0
    · refine (x_iload1 D196_13 rfl).trans ?_
      refine (x_aload1 D196_14 rfl).trans ?_
      refine ((x_getR D196_15).trans (gd_t h_a0)).trans (bR_c fun r2 => ?_)
      refine (x_alen D196_18).trans (gl_c ?_)
      refine (x_cge D196_19).trans (i_c ?_ ?_)
      · refine (x_iconst D196_31 (k := 0) (by decide)).trans ?_
        exact (x_bret D196_32 M196.2.2.1).trans yB0
      · refine (x_aload1 D196_22 rfl).trans ?_
        refine ((x_getR D196_23).trans (gd_t h_a0)).trans (bR_c fun r3 => ?_)
        refine (x_iload1 D196_26 rfl).trans ?_
        refine (x_aaload D196_27).trans (ga_c (bR_c fun r4 => ?_))
        refine (x_nn D196_28).trans ?_
        refine (x_iload1 D196_33 rfl).trans ?_
        refine (x_ifne D196_34).trans (i_c ?_ ?_)
        · refine (x_aload1 D196_59 rfl).trans ?_
          refine ((x_getR D196_60).trans (gd_t h_a0)).trans (bR_c fun r5 => ?_)
          refine (x_iload1 D196_63 rfl).trans ?_
          refine (x_baload D196_64).trans (ga_c ?_)
          refine (x_ifeq D196_65).trans (i_c ?_ ?_)
          · refine (x_aload1 D196_81 rfl).trans ?_
            refine ((x_getR D196_82).trans (gd_t h_a0)).trans (bR_c fun r6 => ?_)
            refine (x_iload1 D196_85 rfl).trans ?_
            refine (x_baload D196_86).trans (ga_c ?_)
            exact x_bret D196_87 M196.2.2.1
          · refine (x_aload1 D196_68 rfl).trans ?_
            refine ((x_getR D196_69).trans (gd_t h_a0)).trans (bR_c fun r7 => ?_)
            refine (x_aload1 D196_72 rfl).trans ?_
            refine ((x_getR D196_73).trans (gd_t h_a0)).trans (bR_c fun r8 => ?_)
            refine (x_iload1 D196_76 rfl).trans ?_
            refine (x_aaload D196_77).trans (ga_c (bR_c fun r9 => ?_))
            refine (x_cg D196_78 M197 rfl rfl).trans (gd_c fun h10 => ?_)
            refine (x_cV D196_78 M197  (I197 _ _) rfl rfl (ok_i M197 (I197 _ _) rfl rfl h10)).trans (bV_c fun m11 => ?_)
            refine (x_aload1 D196_81 rfl).trans ?_
            refine ((x_getR D196_82).trans (gd_t h_a0)).trans (bR_c fun r12 => ?_)
            refine (x_iload1 D196_85 rfl).trans ?_
            refine (x_baload D196_86).trans (ga_c ?_)
            exact x_bret D196_87 M196.2.2.1
        · refine (x_aload1 D196_37 rfl).trans ?_
          refine ((x_getR D196_38).trans (gd_t h_a0)).trans (bR_c fun r13 => ?_)
          refine (x_iload1 D196_41 rfl).trans ?_
          refine (x_aaload D196_42).trans (ga_c (bR_c fun r14 => ?_))
          refine (x_aload1 D196_43 rfl).trans ?_
          refine ((x_getR D196_44).trans (gd_t h_a0)).trans (bR_c fun r15 => ?_)
          refine (x_cg D196_47 M197 rfl rfl).trans (gd_c fun h16 => ?_)
          refine (x_cV D196_47 M197  (I197 _ _) rfl rfl (ok_i M197 (I197 _ _) rfl rfl h16)).trans (bV_c fun m17 => ?_)
          refine (x_aload1 D196_50 rfl).trans ?_
          refine ((x_getR D196_51).trans (gd_t h_a0)).trans (bR_c fun r18 => ?_)
          refine (x_iload1 D196_54 rfl).trans ?_
          refine (x_iconst D196_55 (k := 1) (by decide)).trans ?_
          refine (x_bastore D196_56).trans (gw_c ?_)
          refine mI_i (fun m19 => X (d + 1) 196 57 [.ref a0, .int x1, .int x2] [] m19) _ ?_
          intro m19
          refine (x_iconst D196_57 (k := 1) (by decide)).trans ?_
          exact (x_bret D196_58 M196.2.2.1).trans yB1
theorem D199_0 : decode (mB 199) 0 = .ok (.iload_n 1, 1) := by decide +kernel
theorem D199_1 : TB 199 1 202 (0) (11) [64, 75, 86, 97, 108, 128, 139, 150, 161, 172, 180, 188] := ⟨#[63, 74, 85, 96, 107, 127, 138, 149, 160, 171, 179, 187], 201, 63, by decide +kernel, by decide +kernel⟩
theorem D199_64 : decode (mB 199) 64 = .ok (.aload_n 0, 1) := by decide +kernel
theorem D199_65 : GF 199 65 9 2 2 := ⟨26, true, by decide +kernel, by decide +kernel⟩
theorem D199_68 : GF 199 68 6 0 2 := ⟨124, false, by decide +kernel, by decide +kernel⟩
theorem D199_71 : CS 199 71 78 0 := ⟨.invokevirtual 378, by decide +kernel, by decide +kernel, by decide +kernel, by decide⟩
theorem D199_74 : decode (mB 199) 74 = .ok (.ireturn, 1) := by decide +kernel
theorem D199_75 : decode (mB 199) 75 = .ok (.aload_n 0, 1) := by decide +kernel
theorem D199_76 : GF 199 76 9 2 2 := ⟨26, true, by decide +kernel, by decide +kernel⟩
theorem D199_79 : GF 199 79 6 0 2 := ⟨124, false, by decide +kernel, by decide +kernel⟩
theorem D199_82 : CS 199 82 200 0 := ⟨.invokevirtual 381, by decide +kernel, by decide +kernel, by decide +kernel, by decide⟩
theorem D199_85 : decode (mB 199) 85 = .ok (.ireturn, 1) := by decide +kernel
theorem D199_86 : decode (mB 199) 86 = .ok (.aload_n 0, 1) := by decide +kernel
theorem D199_87 : GF 199 87 9 2 2 := ⟨26, true, by decide +kernel, by decide +kernel⟩
theorem D199_90 : GF 199 90 6 0 2 := ⟨124, false, by decide +kernel, by decide +kernel⟩
theorem D199_93 : CS 199 93 178 0 := ⟨.invokevirtual 310, by decide +kernel, by decide +kernel, by decide +kernel, by decide⟩
theorem D199_96 : decode (mB 199) 96 = .ok (.ireturn, 1) := by decide +kernel
theorem D199_97 : decode (mB 199) 97 = .ok (.aload_n 0, 1) := by decide +kernel
theorem D199_98 : GF 199 98 9 2 2 := ⟨26, true, by decide +kernel, by decide +kernel⟩
theorem D199_101 : GF 199 101 6 0 2 := ⟨124, false, by decide +kernel, by decide +kernel⟩
theorem D199_104 : CS 199 104 201 0 := ⟨.invokevirtual 384, by decide +kernel, by decide +kernel, by decide +kernel, by decide⟩
theorem D199_107 : decode (mB 199) 107 = .ok (.ireturn, 1) := by decide +kernel
theorem D199_108 : decode (mB 199) 108 = .ok (.aload_n 0, 1) := by decide +kernel
theorem D199_109 : GF 199 109 9 2 2 := ⟨26, true, by decide +kernel, by decide +kernel⟩
theorem D199_112 : GF 199 112 6 0 2 := ⟨124, false, by decide +kernel, by decide +kernel⟩
theorem D199_115 : decode (mB 199) 115 = .ok (.iconst 1, 1) := by decide +kernel
theorem D199_116 : CS 199 116 89 0 := ⟨.invokevirtual 136, by decide +kernel, by decide +kernel, by decide +kernel, by decide⟩
theorem D199_119 : BR 199 119 (.ifCond .eq 7) (7) 126 := ⟨by decide +kernel, by decide, by decide⟩
theorem D199_126 : decode (mB 199) 126 = .ok (.iconst 1, 1) := by decide +kernel
theorem D199_127 : decode (mB 199) 127 = .ok (.ireturn, 1) := by decide +kernel
theorem D199_122 : decode (mB 199) 122 = .ok (.iconst 2, 1) := by decide +kernel
theorem D199_123 : BR 199 123 (.goto 4) (4) 127 := ⟨by decide +kernel, by decide, by decide⟩
theorem D199_128 : decode (mB 199) 128 = .ok (.aload_n 0, 1) := by decide +kernel
theorem D199_129 : GF 199 129 9 2 2 := ⟨26, true, by decide +kernel, by decide +kernel⟩
theorem D199_132 : GF 199 132 6 1 2 := ⟨108, true, by decide +kernel, by decide +kernel⟩
theorem D199_135 : CS 199 135 70 0 := ⟨.invokevirtual 111, by decide +kernel, by decide +kernel, by decide +kernel, by decide⟩
theorem D199_138 : decode (mB 199) 138 = .ok (.ireturn, 1) := by decide +kernel
theorem D199_139 : decode (mB 199) 139 = .ok (.aload_n 0, 1) := by decide +kernel
theorem D199_140 : GF 199 140 9 2 2 := ⟨26, true, by decide +kernel, by decide +kernel⟩
theorem D199_143 : GF 199 143 6 3 2 := ⟨145, true, by decide +kernel, by decide +kernel⟩
theorem D199_146 : CS 199 146 91 0 := ⟨.invokevirtual 149, by decide +kernel, by decide +kernel, by decide +kernel, by decide⟩
theorem D199_149 : decode (mB 199) 149 = .ok (.ireturn, 1) := by decide +kernel
theorem D199_150 : decode (mB 199) 150 = .ok (.aload_n 0, 1) := by decide +kernel
theorem D199_151 : GF 199 151 9 2 2 := ⟨26, true, by decide +kernel, by decide +kernel⟩
theorem D199_154 : GF 199 154 6 2 2 := ⟨121, true, by decide +kernel, by decide +kernel⟩
theorem D199_157 : CS 199 157 70 0 := ⟨.invokevirtual 111, by decide +kernel, by decide +kernel, by decide +kernel, by decide⟩
theorem D199_160 : decode (mB 199) 160 = .ok (.ireturn, 1) := by decide +kernel
theorem D199_161 : decode (mB 199) 161 = .ok (.aload_n 0, 1) := by decide +kernel
theorem D199_162 : GF 199 162 9 2 2 := ⟨26, true, by decide +kernel, by decide +kernel⟩
theorem D199_165 : GF 199 165 6 4 2 := ⟨156, true, by decide +kernel, by decide +kernel⟩
theorem D199_168 : CS 199 168 91 0 := ⟨.invokevirtual 149, by decide +kernel, by decide +kernel, by decide +kernel, by decide⟩
theorem D199_171 : decode (mB 199) 171 = .ok (.ireturn, 1) := by decide +kernel
theorem D199_172 : decode (mB 199) 172 = .ok (.aload_n 0, 1) := by decide +kernel
theorem D199_173 : GF 199 173 9 2 2 := ⟨26, true, by decide +kernel, by decide +kernel⟩
theorem D199_176 : GF 199 176 6 5 0 := ⟨132, false, by decide +kernel, by decide +kernel⟩
theorem D199_179 : decode (mB 199) 179 = .ok (.ireturn, 1) := by decide +kernel
theorem D199_180 : decode (mB 199) 180 = .ok (.aload_n 0, 1) := by decide +kernel
theorem D199_181 : GF 199 181 9 0 2 := ⟨12, true, by decide +kernel, by decide +kernel⟩
theorem D199_184 : CS 199 184 12 0 := ⟨.invokevirtual 80, by decide +kernel, by decide +kernel, by decide +kernel, by decide⟩
theorem D199_187 : decode (mB 199) 187 = .ok (.ireturn, 1) := by decide +kernel
theorem D199_188 : decode (mB 199) 188 = .ok (.aload_n 0, 1) := by decide +kernel
theorem D199_189 : GF 199 189 9 2 2 := ⟨26, true, by decide +kernel, by decide +kernel⟩
theorem D199_192 : GF 199 192 6 0 2 := ⟨124, false, by decide +kernel, by decide +kernel⟩
theorem D199_195 : CS 199 195 95 0 := ⟨.invokevirtual 159, by decide +kernel, by decide +kernel, by decide +kernel, by decide⟩
theorem D199_198 : CS 199 198 119 2 := ⟨.invokestatic 185, by decide +kernel, by decide +kernel, by decide +kernel, by decide⟩
theorem D199_201 : decode (mB 199) 201 = .ok (.ireturn, 1) := by decide +kernel
theorem D199_202 : decode (mB 199) 202 = .ok (.iconst (-1), 1) := by decide +kernel
theorem D199_203 : decode (mB 199) 203 = .ok (.ireturn, 1) := by decide +kernel
theorem LC_count_e (d : Nat) (a0 : Nat) (x1 : Int32) (m : eM) (h_a0 : kd a0 = 9) : LC_count (d + 1) a0 x1 m = tsw (0 : Int32) [LC_count_64 (d + 1) a0 x1 m, LC_count_75 (d + 1) a0 x1 m, LC_count_86 (d + 1) a0 x1 m, LC_count_97 (d + 1) a0 x1 m, LC_count_108 (d + 1) a0 x1 m, LC_count_128 (d + 1) a0 x1 m, LC_count_139 (d + 1) a0 x1 m, LC_count_150 (d + 1) a0 x1 m, LC_count_161 (d + 1) a0 x1 m, LC_count_172 (d + 1) a0 x1 m, LC_count_180 (d + 1) a0 x1 m, LC_count_188 (d + 1) a0 x1 m] (LC_count_202 (d + 1) a0 x1 m) x1 := by
  unfold LC_count
  refine (x_iload1 D199_0 rfl).trans ?_
  refine (x_tab D199_1 (k := 0) (by decide)).trans ?_
  refine tsw_c ?_ ?_
  · rfl
  refine tsw_c ?_ ?_
  · rfl
  refine tsw_c ?_ ?_
  · rfl
  refine tsw_c ?_ ?_
  · rfl
  refine tsw_c ?_ ?_
  · rfl
  refine tsw_c ?_ ?_
  · rfl
  refine tsw_c ?_ ?_
  · rfl
  refine tsw_c ?_ ?_
  · rfl
  refine tsw_c ?_ ?_
  · rfl
  refine tsw_c ?_ ?_
  · rfl
  refine tsw_c ?_ ?_
  · rfl
  refine tsw_c ?_ ?_
  · rfl
  refine tsw_d ?_
  rfl
theorem LC_count_64_e (d : Nat) (a0 : Nat) (x1 : Int32) (m : eM) (h_a0 : kd a0 = 9) : LC_count_64 (d + 1) a0 x1 m = bR (gR m a0 2) fun r1 => gd r1 6 (bR (gR m r1 0) fun r3 => gd r3 4 (bI (Pa_facts d r3 m) fun v6 m5 => yI v6 m5)) := by
  unfold LC_count_64
  refine (x_aload1 D199_64 rfl).trans ?_
  refine ((x_getR D199_65).trans (gd_t h_a0)).trans (bR_c fun r1 => ?_)
  refine (x_getR D199_68).trans (gd_c fun h2 => bR_c fun r3 => ?_)
  refine (x_cg D199_71 M78 rfl rfl).trans (gd_c fun h4 => ?_)
  refine (x_cI D199_71 M78 (fun z => by cases z) (I78 _) rfl rfl (ok_i M78 (I78 _) rfl rfl h4)).trans (bI_c fun v6 m5 => ?_)
  exact x_iret D199_74 M199.2.2.1
theorem LC_count_75_e (d : Nat) (a0 : Nat) (x1 : Int32) (m : eM) (h_a0 : kd a0 = 9) : LC_count_75 (d + 1) a0 x1 m = bR (gR m a0 2) fun r1 => gd r1 6 (bR (gR m r1 0) fun r3 => gd r3 4 (bI (Pa_places d r3 m) fun v6 m5 => yI v6 m5)) := by
  unfold LC_count_75
  refine (x_aload1 D199_75 rfl).trans ?_
  refine ((x_getR D199_76).trans (gd_t h_a0)).trans (bR_c fun r1 => ?_)
  refine (x_getR D199_79).trans (gd_c fun h2 => bR_c fun r3 => ?_)
  refine (x_cg D199_82 M200 rfl rfl).trans (gd_c fun h4 => ?_)
  refine (x_cI D199_82 M200 (fun z => by cases z) (I200 _) rfl rfl (ok_i M200 (I200 _) rfl rfl h4)).trans (bI_c fun v6 m5 => ?_)
  exact x_iret D199_85 M199.2.2.1
theorem LC_count_86_e (d : Nat) (a0 : Nat) (x1 : Int32) (m : eM) (h_a0 : kd a0 = 9) : LC_count_86 (d + 1) a0 x1 m = bR (gR m a0 2) fun r1 => gd r1 6 (bR (gR m r1 0) fun r3 => gd r3 4 (bI (Pa_people d r3 m) fun v6 m5 => yI v6 m5)) := by
  unfold LC_count_86
  refine (x_aload1 D199_86 rfl).trans ?_
  refine ((x_getR D199_87).trans (gd_t h_a0)).trans (bR_c fun r1 => ?_)
  refine (x_getR D199_90).trans (gd_c fun h2 => bR_c fun r3 => ?_)
  refine (x_cg D199_93 M178 rfl rfl).trans (gd_c fun h4 => ?_)
  refine (x_cI D199_93 M178 (fun z => by cases z) (I178 _) rfl rfl (ok_i M178 (I178 _) rfl rfl h4)).trans (bI_c fun v6 m5 => ?_)
  exact x_iret D199_96 M199.2.2.1
theorem LC_count_97_e (d : Nat) (a0 : Nat) (x1 : Int32) (m : eM) (h_a0 : kd a0 = 9) : LC_count_97 (d + 1) a0 x1 m = bR (gR m a0 2) fun r1 => gd r1 6 (bR (gR m r1 0) fun r3 => gd r3 4 (bI (Pa_commons d r3 m) fun v6 m5 => yI v6 m5)) := by
  unfold LC_count_97
  refine (x_aload1 D199_97 rfl).trans ?_
  refine ((x_getR D199_98).trans (gd_t h_a0)).trans (bR_c fun r1 => ?_)
  refine (x_getR D199_101).trans (gd_c fun h2 => bR_c fun r3 => ?_)
  refine (x_cg D199_104 M201 rfl rfl).trans (gd_c fun h4 => ?_)
  refine (x_cI D199_104 M201 (fun z => by cases z) (I201 _) rfl rfl (ok_i M201 (I201 _) rfl rfl h4)).trans (bI_c fun v6 m5 => ?_)
  exact x_iret D199_107 M199.2.2.1
theorem LC_count_108_e (d : Nat) (a0 : Nat) (x1 : Int32) (m : eM) (h_a0 : kd a0 = 9) : LC_count_108 (d + 1) a0 x1 m = bR (gR m a0 2) fun r1 => gd r1 6 (bR (gR m r1 0) fun r3 => gd r3 4 (bI (Pa_isThere d r3 (1 : Int32) m) fun v6 m5 => if v6 = 0 then (yI (1 : Int32) m5) else (yI (2 : Int32) m5))) := by
  unfold LC_count_108
  refine (x_aload1 D199_108 rfl).trans ?_
  refine ((x_getR D199_109).trans (gd_t h_a0)).trans (bR_c fun r1 => ?_)
  refine (x_getR D199_112).trans (gd_c fun h2 => bR_c fun r3 => ?_)
  refine (x_iconst D199_115 (k := 1) (by decide)).trans ?_
  refine (x_cg D199_116 M89 rfl rfl).trans (gd_c fun h4 => ?_)
  refine (x_cI D199_116 M89 (fun z => by cases z) (I89 _ _) rfl rfl (ok_i M89 (I89 _ _) rfl rfl h4)).trans (bI_c fun v6 m5 => ?_)
  refine (x_ifeq D199_119).trans (i_c ?_ ?_)
  · refine (x_iconst D199_126 (k := 1) (by decide)).trans ?_
    exact x_iret D199_127 M199.2.2.1
  · refine (x_iconst D199_122 (k := 2) (by decide)).trans ?_
    refine (x_goto D199_123).trans ?_
    exact x_iret D199_127 M199.2.2.1
theorem LC_count_128_e (d : Nat) (a0 : Nat) (x1 : Int32) (m : eM) (h_a0 : kd a0 = 9) : LC_count_128 (d + 1) a0 x1 m = bR (gR m a0 2) fun r1 => gd r1 6 (bR (gR m r1 1) fun r3 => gd r3 7 (bI (Tk_size d r3 m) fun v6 m5 => yI v6 m5)) := by
  unfold LC_count_128
  refine (x_aload1 D199_128 rfl).trans ?_
  refine ((x_getR D199_129).trans (gd_t h_a0)).trans (bR_c fun r1 => ?_)
  refine (x_getR D199_132).trans (gd_c fun h2 => bR_c fun r3 => ?_)
  refine (x_cg D199_135 M70 rfl rfl).trans (gd_c fun h4 => ?_)
  refine (x_cI D199_135 M70 (fun z => by cases z) (I70 _) rfl rfl (ok_i M70 (I70 _) rfl rfl h4)).trans (bI_c fun v6 m5 => ?_)
  exact x_iret D199_138 M199.2.2.1
theorem LC_count_139_e (d : Nat) (a0 : Nat) (x1 : Int32) (m : eM) (h_a0 : kd a0 = 9) : LC_count_139 (d + 1) a0 x1 m = bR (gR m a0 2) fun r1 => gd r1 6 (bR (gR m r1 3) fun r3 => gd r3 3 (bI (Lo_size d r3 m) fun v6 m5 => yI v6 m5)) := by
  unfold LC_count_139
  refine (x_aload1 D199_139 rfl).trans ?_
  refine ((x_getR D199_140).trans (gd_t h_a0)).trans (bR_c fun r1 => ?_)
  refine (x_getR D199_143).trans (gd_c fun h2 => bR_c fun r3 => ?_)
  refine (x_cg D199_146 M91 rfl rfl).trans (gd_c fun h4 => ?_)
  refine (x_cI D199_146 M91 (fun z => by cases z) (I91 _) rfl rfl (ok_i M91 (I91 _) rfl rfl h4)).trans (bI_c fun v6 m5 => ?_)
  exact x_iret D199_149 M199.2.2.1
theorem LC_count_150_e (d : Nat) (a0 : Nat) (x1 : Int32) (m : eM) (h_a0 : kd a0 = 9) : LC_count_150 (d + 1) a0 x1 m = bR (gR m a0 2) fun r1 => gd r1 6 (bR (gR m r1 2) fun r3 => gd r3 7 (bI (Tk_size d r3 m) fun v6 m5 => yI v6 m5)) := by
  unfold LC_count_150
  refine (x_aload1 D199_150 rfl).trans ?_
  refine ((x_getR D199_151).trans (gd_t h_a0)).trans (bR_c fun r1 => ?_)
  refine (x_getR D199_154).trans (gd_c fun h2 => bR_c fun r3 => ?_)
  refine (x_cg D199_157 M70 rfl rfl).trans (gd_c fun h4 => ?_)
  refine (x_cI D199_157 M70 (fun z => by cases z) (I70 _) rfl rfl (ok_i M70 (I70 _) rfl rfl h4)).trans (bI_c fun v6 m5 => ?_)
  exact x_iret D199_160 M199.2.2.1
theorem LC_count_161_e (d : Nat) (a0 : Nat) (x1 : Int32) (m : eM) (h_a0 : kd a0 = 9) : LC_count_161 (d + 1) a0 x1 m = bR (gR m a0 2) fun r1 => gd r1 6 (bR (gR m r1 4) fun r3 => gd r3 3 (bI (Lo_size d r3 m) fun v6 m5 => yI v6 m5)) := by
  unfold LC_count_161
  refine (x_aload1 D199_161 rfl).trans ?_
  refine ((x_getR D199_162).trans (gd_t h_a0)).trans (bR_c fun r1 => ?_)
  refine (x_getR D199_165).trans (gd_c fun h2 => bR_c fun r3 => ?_)
  refine (x_cg D199_168 M91 rfl rfl).trans (gd_c fun h4 => ?_)
  refine (x_cI D199_168 M91 (fun z => by cases z) (I91 _) rfl rfl (ok_i M91 (I91 _) rfl rfl h4)).trans (bI_c fun v6 m5 => ?_)
  exact x_iret D199_171 M199.2.2.1
theorem LC_count_172_e (d : Nat) (a0 : Nat) (x1 : Int32) (m : eM) (h_a0 : kd a0 = 9) : LC_count_172 (d + 1) a0 x1 m = bR (gR m a0 2) fun r1 => gd r1 6 (yI (gI m r1 5) m) := by
  unfold LC_count_172
  refine (x_aload1 D199_172 rfl).trans ?_
  refine ((x_getR D199_173).trans (gd_t h_a0)).trans (bR_c fun r1 => ?_)
  refine (x_getI D199_176).trans (gd_c fun h2 => ?_)
  exact x_iret D199_179 M199.2.2.1
theorem LC_count_180_e (d : Nat) (a0 : Nat) (x1 : Int32) (m : eM) (h_a0 : kd a0 = 9) : LC_count_180 (d + 1) a0 x1 m = bR (gR m a0 0) fun r1 => gd r1 8 (bI (Ta_length d r1 m) fun v4 m3 => yI v4 m3) := by
  unfold LC_count_180
  refine (x_aload1 D199_180 rfl).trans ?_
  refine ((x_getR D199_181).trans (gd_t h_a0)).trans (bR_c fun r1 => ?_)
  refine (x_cg D199_184 M12 rfl rfl).trans (gd_c fun h2 => ?_)
  refine (x_cI D199_184 M12 (fun z => by cases z) (I12 _) rfl rfl (ok_i M12 (I12 _) rfl rfl h2)).trans (bI_c fun v4 m3 => ?_)
  exact x_iret D199_187 M199.2.2.1
theorem LC_count_188_e (d : Nat) (a0 : Nat) (x1 : Int32) (m : eM) (h_a0 : kd a0 = 9) : LC_count_188 (d + 1) a0 x1 m = bR (gR m a0 2) fun r1 => gd r1 6 (bR (gR m r1 0) fun r3 => gd r3 4 (bL (Pa_commonWorlds d r3 m) fun v6 m5 => bI (Lg_bitCount d v6 m5) fun v8 m7 => yI v8 m7)) := by
  unfold LC_count_188
  refine (x_aload1 D199_188 rfl).trans ?_
  refine ((x_getR D199_189).trans (gd_t h_a0)).trans (bR_c fun r1 => ?_)
  refine (x_getR D199_192).trans (gd_c fun h2 => bR_c fun r3 => ?_)
  refine (x_cg D199_195 M95 rfl rfl).trans (gd_c fun h4 => ?_)
  refine (x_cL D199_195 M95  (I95 _) rfl rfl (ok_i M95 (I95 _) rfl rfl h4)).trans (bL_c fun v6 m5 => ?_)
  refine (x_cI D199_198 M119 (fun z => by cases z) (I119 _) rfl rfl (ok_s M119 (I119 _) rfl rfl)).trans (bI_c fun v8 m7 => ?_)
  exact x_iret D199_201 M199.2.2.1
theorem LC_count_202_e (d : Nat) (a0 : Nat) (x1 : Int32) (m : eM) (h_a0 : kd a0 = 9) : LC_count_202 (d + 1) a0 x1 m = yI (-1 : Int32) m := by
  unfold LC_count_202
  refine (x_iconst D199_202 (k := -1) (by decide)).trans ?_
  exact x_iret D199_203 M199.2.2.1
theorem D202_0 : decode (mB 202) 0 = .ok (.aload_n 0, 1) := by decide +kernel
theorem D202_1 : GF 202 1 9 2 2 := ⟨26, true, by decide +kernel, by decide +kernel⟩
theorem D202_4 : GF 202 4 6 0 2 := ⟨124, false, by decide +kernel, by decide +kernel⟩
theorem D202_7 : decode (mB 202) 7 = .ok (.astore 6, 2) := by decide +kernel
theorem D202_9 : decode (mB 202) 9 = .ok (.aload_n 0, 1) := by decide +kernel
theorem D202_10 : GF 202 10 9 2 2 := ⟨26, true, by decide +kernel, by decide +kernel⟩
theorem D202_13 : GF 202 13 6 1 2 := ⟨108, true, by decide +kernel, by decide +kernel⟩
theorem D202_16 : decode (mB 202) 16 = .ok (.iload_n 1, 1) := by decide +kernel
theorem D202_17 : CS 202 17 73 0 := ⟨.invokevirtual 170, by decide +kernel, by decide +kernel, by decide +kernel, by decide⟩
theorem D202_20 : BR 202 20 (.ifCond .eq 44) (44) 64 := ⟨by decide +kernel, by decide, by decide⟩
theorem D202_64 : ∃ k, decode (mB 202) 64 = .ok (.new k, 3) ∧ eThrow 202 64 (.new k) = true := ⟨331, by decide +kernel, by decide +kernel⟩
theorem D202_23 : decode (mB 202) 23 = .ok (.aload 6, 2) := by decide +kernel
theorem D202_25 : decode (mB 202) 25 = .ok (.iload_n 2, 1) := by decide +kernel
theorem D202_26 : CS 202 26 89 0 := ⟨.invokevirtual 136, by decide +kernel, by decide +kernel, by decide +kernel, by decide⟩
theorem D202_29 : BR 202 29 (.ifCond .eq 35) (35) 64 := ⟨by decide +kernel, by decide, by decide⟩
theorem D202_32 : decode (mB 202) 32 = .ok (.iload_n 3, 1) := by decide +kernel
theorem D202_33 : decode (mB 202) 33 = .ok (.iconst 1, 1) := by decide +kernel
theorem D202_34 : BR 202 34 (.if_icmp .lt 30) (30) 64 := ⟨by decide +kernel, by decide, by decide⟩
theorem D202_37 : decode (mB 202) 37 = .ok (.iload_n 3, 1) := by decide +kernel
theorem D202_38 : decode (mB 202) 38 = .ok (.bipush 9, 2) := by decide +kernel
theorem D202_40 : BR 202 40 (.if_icmp .gt 24) (24) 64 := ⟨by decide +kernel, by decide, by decide⟩
theorem D202_43 : decode (mB 202) 43 = .ok (.iload 4, 2) := by decide +kernel
theorem D202_45 : decode (mB 202) 45 = .ok (.iconst 1, 1) := by decide +kernel
theorem D202_46 : BR 202 46 (.if_icmp .lt 18) (18) 64 := ⟨by decide +kernel, by decide, by decide⟩
theorem D202_49 : decode (mB 202) 49 = .ok (.iload 4, 2) := by decide +kernel
theorem D202_51 : decode (mB 202) 51 = .ok (.bipush 15, 2) := by decide +kernel
theorem D202_53 : BR 202 53 (.if_icmp .gt 11) (11) 64 := ⟨by decide +kernel, by decide, by decide⟩
theorem D202_56 : decode (mB 202) 56 = .ok (.iload 5, 2) := by decide +kernel
theorem D202_58 : CS 202 58 125 2 := ⟨.invokestatic 201, by decide +kernel, by decide +kernel, by decide +kernel, by decide⟩
theorem D202_61 : BR 202 61 (.ifCond .ne 14) (14) 75 := ⟨by decide +kernel, by decide, by decide⟩
theorem D202_75 : decode (mB 202) 75 = .ok (.aload_n 0, 1) := by decide +kernel
theorem D202_76 : GF 202 76 9 2 2 := ⟨26, true, by decide +kernel, by decide +kernel⟩
theorem D202_79 : GF 202 79 6 1 2 := ⟨108, true, by decide +kernel, by decide +kernel⟩
theorem D202_82 : decode (mB 202) 82 = .ok (.iload_n 1, 1) := by decide +kernel
theorem D202_83 : CS 202 83 72 0 := ⟨.invokevirtual 338, by decide +kernel, by decide +kernel, by decide +kernel, by decide⟩
theorem D202_86 : decode (mB 202) 86 = .ok (.aload 6, 2) := by decide +kernel
theorem D202_88 : decode (mB 202) 88 = .ok (.iload_n 2, 1) := by decide +kernel
theorem D202_89 : CS 202 89 103 0 := ⟨.invokevirtual 233, by decide +kernel, by decide +kernel, by decide +kernel, by decide⟩
theorem D202_92 : decode (mB 202) 92 = .ok (.iadd, 1) := by decide +kernel
theorem D202_93 : decode (mB 202) 93 = .ok (.istore 7, 2) := by decide +kernel
theorem D202_95 : decode (mB 202) 95 = .ok (.iload 7, 2) := by decide +kernel
theorem D202_97 : decode (mB 202) 97 = .ok (.iload 4, 2) := by decide +kernel
theorem D202_99 : decode (mB 202) 99 = .ok (.iadd, 1) := by decide +kernel
theorem D202_100 : decode (mB 202) 100 = .ok (.iconst 1, 1) := by decide +kernel
theorem D202_101 : decode (mB 202) 101 = .ok (.isub, 1) := by decide +kernel
theorem D202_102 : decode (mB 202) 102 = .ok (.istore 8, 2) := by decide +kernel
theorem D202_104 : decode (mB 202) 104 = .ok (.aload_n 0, 1) := by decide +kernel
theorem D202_105 : GF 202 105 9 2 2 := ⟨26, true, by decide +kernel, by decide +kernel⟩
theorem D202_108 : GF 202 108 6 1 2 := ⟨108, true, by decide +kernel, by decide +kernel⟩
theorem D202_111 : decode (mB 202) 111 = .ok (.iload_n 1, 1) := by decide +kernel
theorem D202_112 : decode (mB 202) 112 = .ok (.aload 6, 2) := by decide +kernel
theorem D202_114 : decode (mB 202) 114 = .ok (.iload_n 2, 1) := by decide +kernel
theorem D202_115 : CS 202 115 104 0 := ⟨.invokevirtual 313, by decide +kernel, by decide +kernel, by decide +kernel, by decide⟩
theorem D202_118 : CS 202 118 105 0 := ⟨.invokevirtual 177, by decide +kernel, by decide +kernel, by decide +kernel, by decide⟩
theorem D202_121 : decode (mB 202) 121 = .ok (.aload_n 0, 1) := by decide +kernel
theorem D202_122 : GF 202 122 9 2 2 := ⟨26, true, by decide +kernel, by decide +kernel⟩
theorem D202_125 : GF 202 125 6 5 0 := ⟨132, false, by decide +kernel, by decide +kernel⟩
theorem D202_128 : CS 202 128 96 2 := ⟨.invokestatic 163, by decide +kernel, by decide +kernel, by decide +kernel, by decide⟩
theorem D202_131 : BR 202 131 (.ifCond .eq 11) (11) 142 := ⟨by decide +kernel, by decide, by decide⟩
theorem D202_142 : ∃ k, decode (mB 202) 142 = .ok (.new k, 3) ∧ eThrow 202 142 (.new k) = true := ⟨331, by decide +kernel, by decide +kernel⟩
theorem D202_134 : decode (mB 202) 134 = .ok (.iload 8, 2) := by decide +kernel
theorem D202_136 : decode (mB 202) 136 = .ok (.sipush 1439, 3) := by decide +kernel
theorem D202_139 : BR 202 139 (.if_icmp .le 14) (14) 153 := ⟨by decide +kernel, by decide, by decide⟩
theorem D202_153 : decode (mB 202) 153 = .ok (.aload_n 0, 1) := by decide +kernel
theorem D202_154 : GF 202 154 9 7 2 := ⟨55, true, by decide +kernel, by decide +kernel⟩
theorem D202_157 : decode (mB 202) 157 = .ok (.aload_n 0, 1) := by decide +kernel
theorem D202_158 : GF 202 158 9 2 2 := ⟨26, true, by decide +kernel, by decide +kernel⟩
theorem D202_161 : decode (mB 202) 161 = .ok (.iload_n 2, 1) := by decide +kernel
theorem D202_162 : CS 202 162 162 0 := ⟨.invokevirtual 276, by decide +kernel, by decide +kernel, by decide +kernel, by decide⟩
theorem D202_165 : decode (mB 202) 165 = .ok (.aload_n 0, 1) := by decide +kernel
theorem D202_166 : GF 202 166 9 7 2 := ⟨55, true, by decide +kernel, by decide +kernel⟩
theorem D202_169 : decode (mB 202) 169 = .ok (.aload_n 0, 1) := by decide +kernel
theorem D202_170 : GF 202 170 9 2 2 := ⟨26, true, by decide +kernel, by decide +kernel⟩
theorem D202_173 : GF 202 173 6 1 2 := ⟨108, true, by decide +kernel, by decide +kernel⟩
theorem D202_176 : decode (mB 202) 176 = .ok (.iload_n 1, 1) := by decide +kernel
theorem D202_177 : CS 202 177 106 0 := ⟨.invokevirtual 341, by decide +kernel, by decide +kernel, by decide +kernel, by decide⟩
theorem D202_180 : decode (mB 202) 180 = .ok (.iload 7, 2) := by decide +kernel
theorem D202_182 : decode (mB 202) 182 = .ok (.iload 8, 2) := by decide +kernel
theorem D202_184 : CS 202 184 168 0 := ⟨.invokevirtual 289, by decide +kernel, by decide +kernel, by decide +kernel, by decide⟩
theorem D202_187 : decode (mB 202) 187 = .ok (.istore 9, 2) := by decide +kernel
theorem D202_189 : decode (mB 202) 189 = .ok (.iconst 1, 1) := by decide +kernel
theorem R202_190 : lRes (mC 202) 344 = some (10) := by decide +kernel
theorem D202_190 : decode (mB 202) 190 = .ok (.ldc2_w 344, 3) := by decide +kernel
theorem D202_193 : decode (mB 202) 193 = .ok (.bipush 10, 2) := by decide +kernel
theorem D202_195 : decode (mB 202) 195 = .ok (.iload_n 3, 1) := by decide +kernel
theorem D202_196 : decode (mB 202) 196 = .ok (.isub, 1) := by decide +kernel
theorem D202_197 : decode (mB 202) 197 = .ok (.i2l, 1) := by decide +kernel
theorem D202_198 : CS 202 198 128 2 := ⟨.invokestatic 210, by decide +kernel, by decide +kernel, by decide +kernel, by decide⟩
theorem D202_201 : decode (mB 202) 201 = .ok (.l2i, 1) := by decide +kernel
theorem D202_202 : MA 202 202 0 := ⟨346, by decide +kernel, by decide +kernel, by decide +kernel⟩
theorem D202_205 : decode (mB 202) 205 = .ok (.istore 10, 2) := by decide +kernel
theorem D202_207 : decode (mB 202) 207 = .ok (.iload 5, 2) := by decide +kernel
theorem D202_209 : BR 202 209 (.ifCond .ne 10) (10) 219 := ⟨by decide +kernel, by decide, by decide⟩
theorem D202_219 : decode (mB 202) 219 = .ok (.bipush 10, 2) := by decide +kernel
theorem D202_221 : decode (mB 202) 221 = .ok (.iload 10, 2) := by decide +kernel
theorem D202_223 : decode (mB 202) 223 = .ok (.idiv, 1) := by decide +kernel
theorem D202_224 : decode (mB 202) 224 = .ok (.i2l, 1) := by decide +kernel
theorem D202_225 : decode (mB 202) 225 = .ok (.iload 9, 2) := by decide +kernel
theorem D202_227 : CS 202 227 203 2 := ⟨.invokestatic 348, by decide +kernel, by decide +kernel, by decide +kernel, by decide⟩
theorem D202_230 : decode (mB 202) 230 = .ok (.lreturn, 1) := by decide +kernel
theorem D202_212 : decode (mB 202) 212 = .ok (.bipush 10, 2) := by decide +kernel
theorem D202_214 : decode (mB 202) 214 = .ok (.iload_n 3, 1) := by decide +kernel
theorem D202_215 : decode (mB 202) 215 = .ok (.isub, 1) := by decide +kernel
theorem D202_216 : BR 202 216 (.goto 5) (5) 221 := ⟨by decide +kernel, by decide, by decide⟩
theorem LC_secret_e (d : Nat) (a0 : Nat) (x1 : Int32) (x2 : Int32) (x3 : Int32) (x4 : Int32) (x5 : Int32) (m : eM) (h_a0 : kd a0 = 9) : LC_secret (d + 11) a0 x1 x2 x3 x4 x5 m = bR (gR m a0 2) fun r1 => gd r1 6 (bR (gR m r1 0) fun r3 => bR (gR m a0 2) fun r4 => gd r4 6 (bR (gR m r4 1) fun r6 => gd r6 7 (bI (Tk_isIn (d + 10) r6 x1 m) fun v9 m8 => if v9 = 0 then (yT m8) else (gd r3 4 (bI (Pa_isThere (d + 10) r3 x2 m8) fun v12 m11 => if v12 = 0 then (yT m11) else (if x3 < (1 : Int32) then (yT m11) else (if (9 : Int32) < x3 then (yT m11) else (if x4 < (1 : Int32) then (yT m11) else (if (15 : Int32) < x4 then (yT m11) else (bI (LC_isWhat (d + 10) x5 m11) fun v14 m13 => if ¬ v14 = 0 then (bR (gR m13 a0 2) fun r15 => gd r15 6 (bR (gR m13 r15 1) fun r17 => gd r17 7 (bI (Tk_minute (d + 10) r17 x1 m13) fun v20 m19 => bI (Pa_late (d + 10) r3 x2 m19) fun v22 m21 => bR (gR m21 a0 2) fun r23 => gd r23 6 (bR (gR m21 r23 1) fun r25 => bI (Pa_law (d + 10) r3 x2 m21) fun v27 m26 => gd r25 7 (bL (Tk_lies (d + 10) r25 x1 v27 m26) fun v30 m29 => bR (gR m29 a0 2) fun r31 => gd r31 6 (bI (LC_holds (d + 10) v30 (gI m29 r31 5) m29) fun v34 m33 => if v34 = 0 then (yT m33) else (if (((v20 + v22) + x4) - (1 : Int32)) ≤ (1439 : Int32) then (bR (gR m33 a0 7) fun r35 => bR (gR m33 a0 2) fun r36 => gd r35 1 (bV (Co_follow (d + 10) r35 r36 x2 m33) fun m38 => bR (gR m38 a0 7) fun r39 => bR (gR m38 a0 2) fun r40 => gd r40 6 (bR (gR m38 r40 1) fun r42 => gd r42 7 (bI (Tk_speaker (d + 10) r42 x1 m38) fun v45 m44 => gd r39 1 (bI (Co_minutesAt (d + 10) r39 v45 (v20 + v22) (((v20 + v22) + x4) - (1 : Int32)) m44) fun v48 m47 => bL (LC_greatestDivisor (d + 10) (10 : Int64) (((10 : Int32) - x3).toInt64) m47) fun v50 m49 => if ¬ x5 = 0 then (if (iMax (1 : Int32) v50.toInt32) = 0 then none else bL (LC_power (d + 10) (((10 : Int32) / (iMax (1 : Int32) v50.toInt32)).toInt64) v48 m49) fun v52 m51 => yL v52 m51) else (if (iMax (1 : Int32) v50.toInt32) = 0 then none else bL (LC_power (d + 10) ((((10 : Int32) - x3) / (iMax (1 : Int32) v50.toInt32)).toInt64) v48 m49) fun v54 m53 => yL v54 m53)))))) else (yT m33)))))))) else (yT m13))))))))))) := by
  unfold LC_secret
  refine (x_aload1 D202_0 rfl).trans ?_
  refine ((x_getR D202_1).trans (gd_t h_a0)).trans (bR_c fun r1 => ?_)
  refine (x_getR D202_4).trans (gd_c fun h2 => bR_c fun r3 => ?_)
  refine (x_astore2 D202_7 (ls' := [.ref a0, .int x1, .int x2, .int x3, .int x4, .int x5, .ref r3, eU, eU, eU, eU]) rfl rfl).trans ?_
  refine (x_aload1 D202_9 rfl).trans ?_
  refine ((x_getR D202_10).trans (gd_t h_a0)).trans (bR_c fun r4 => ?_)
  refine (x_getR D202_13).trans (gd_c fun h5 => bR_c fun r6 => ?_)
  refine (x_iload1 D202_16 rfl).trans ?_
  refine (x_cg D202_17 M73 rfl rfl).trans (gd_c fun h7 => ?_)
  refine (x_cI D202_17 M73 (fun z => by cases z) (I73 _ _) rfl rfl (ok_i M73 (I73 _ _) rfl rfl h7)).trans (bI_c fun v9 m8 => ?_)
  refine (x_ifeq D202_20).trans (i_c ?_ ?_)
  · exact x_thr D202_64 rfl
  · refine (x_aload2 D202_23 rfl).trans ?_
    refine (x_iload1 D202_25 rfl).trans ?_
    refine (x_cg D202_26 M89 rfl rfl).trans (gd_c fun h10 => ?_)
    refine (x_cI D202_26 M89 (fun z => by cases z) (I89 _ _) rfl rfl (ok_i M89 (I89 _ _) rfl rfl h10)).trans (bI_c fun v12 m11 => ?_)
    refine (x_ifeq D202_29).trans (i_c ?_ ?_)
    · exact x_thr D202_64 rfl
    · refine (x_iload1 D202_32 rfl).trans ?_
      refine (x_iconst D202_33 (k := 1) (by decide)).trans ?_
      refine (x_clt D202_34).trans (i_c ?_ ?_)
      · exact x_thr D202_64 rfl
      · refine (x_iload1 D202_37 rfl).trans ?_
        refine (x_bipush D202_38 (k := 9) (by decide)).trans ?_
        refine (x_cgt D202_40).trans (i_c ?_ ?_)
        · exact x_thr D202_64 rfl
        · refine (x_iload2 D202_43 rfl).trans ?_
          refine (x_iconst D202_45 (k := 1) (by decide)).trans ?_
          refine (x_clt D202_46).trans (i_c ?_ ?_)
          · exact x_thr D202_64 rfl
          · refine (x_iload2 D202_49 rfl).trans ?_
            refine (x_bipush D202_51 (k := 15) (by decide)).trans ?_
            refine (x_cgt D202_53).trans (i_c ?_ ?_)
            · exact x_thr D202_64 rfl
            · refine (x_iload2 D202_56 rfl).trans ?_
              refine (x_cI D202_58 M125 (fun z => by cases z) (I125 _) rfl rfl (ok_s M125 (I125 _) rfl rfl)).trans (bI_c fun v14 m13 => ?_)
              refine (x_ifne D202_61).trans (i_c ?_ ?_)
              · refine (x_aload1 D202_75 rfl).trans ?_
                refine ((x_getR D202_76).trans (gd_t h_a0)).trans (bR_c fun r15 => ?_)
                refine (x_getR D202_79).trans (gd_c fun h16 => bR_c fun r17 => ?_)
                refine (x_iload1 D202_82 rfl).trans ?_
                refine (x_cg D202_83 M72 rfl rfl).trans (gd_c fun h18 => ?_)
                refine (x_cI D202_83 M72 (fun z => by cases z) (I72 _ _) rfl rfl (ok_i M72 (I72 _ _) rfl rfl h18)).trans (bI_c fun v20 m19 => ?_)
                refine (x_aload2 D202_86 rfl).trans ?_
                refine (x_iload1 D202_88 rfl).trans ?_
                refine (x_cI D202_89 M103 (fun z => by cases z) (I103 _ _) rfl rfl (ok_i M103 (I103 _ _) rfl rfl h10)).trans (bI_c fun v22 m21 => ?_)
                refine (x_iadd D202_92).trans ?_
                refine (x_istore2 D202_93 (ls' := [.ref a0, .int x1, .int x2, .int x3, .int x4, .int x5, .ref r3, .int (v20 + v22), eU, eU, eU]) rfl rfl).trans ?_
                refine (x_iload2 D202_95 rfl).trans ?_
                refine (x_iload2 D202_97 rfl).trans ?_
                refine (x_iadd D202_99).trans ?_
                refine (x_iconst D202_100 (k := 1) (by decide)).trans ?_
                refine (x_isub D202_101).trans ?_
                refine (x_istore2 D202_102 (ls' := [.ref a0, .int x1, .int x2, .int x3, .int x4, .int x5, .ref r3, .int (v20 + v22), .int (((v20 + v22) + x4) - (1 : Int32)), eU, eU]) rfl rfl).trans ?_
                refine (x_aload1 D202_104 rfl).trans ?_
                refine ((x_getR D202_105).trans (gd_t h_a0)).trans (bR_c fun r23 => ?_)
                refine (x_getR D202_108).trans (gd_c fun h24 => bR_c fun r25 => ?_)
                refine (x_iload1 D202_111 rfl).trans ?_
                refine (x_aload2 D202_112 rfl).trans ?_
                refine (x_iload1 D202_114 rfl).trans ?_
                refine (x_cI D202_115 M104 (fun z => by cases z) (I104 _ _) rfl rfl (ok_i M104 (I104 _ _) rfl rfl h10)).trans (bI_c fun v27 m26 => ?_)
                refine (x_cg D202_118 M105 rfl rfl).trans (gd_c fun h28 => ?_)
                refine (x_cL D202_118 M105  (I105 _ _ _) rfl rfl (ok_i M105 (I105 _ _ _) rfl rfl h28)).trans (bL_c fun v30 m29 => ?_)
                refine (x_aload1 D202_121 rfl).trans ?_
                refine ((x_getR D202_122).trans (gd_t h_a0)).trans (bR_c fun r31 => ?_)
                refine (x_getI D202_125).trans (gd_c fun h32 => ?_)
                refine (x_cI D202_128 M96 (fun z => by cases z) (I96 _ _) rfl rfl (ok_s M96 (I96 _ _) rfl rfl)).trans (bI_c fun v34 m33 => ?_)
                refine (x_ifeq D202_131).trans (i_c ?_ ?_)
                · exact x_thr D202_142 rfl
                · refine (x_iload2 D202_134 rfl).trans ?_
                  refine (x_sipush D202_136 (k := 1439) (by decide)).trans ?_
                  refine (x_cle D202_139).trans (i_c ?_ ?_)
                  · refine (x_aload1 D202_153 rfl).trans ?_
                    refine ((x_getR D202_154).trans (gd_t h_a0)).trans (bR_c fun r35 => ?_)
                    refine (x_aload1 D202_157 rfl).trans ?_
                    refine ((x_getR D202_158).trans (gd_t h_a0)).trans (bR_c fun r36 => ?_)
                    refine (x_iload1 D202_161 rfl).trans ?_
                    refine (x_cg D202_162 M162 rfl rfl).trans (gd_c fun h37 => ?_)
                    refine (x_cV D202_162 M162  (I162 _ _ _) rfl rfl (ok_i M162 (I162 _ _ _) rfl rfl h37)).trans (bV_c fun m38 => ?_)
                    refine (x_aload1 D202_165 rfl).trans ?_
                    refine ((x_getR D202_166).trans (gd_t h_a0)).trans (bR_c fun r39 => ?_)
                    refine (x_aload1 D202_169 rfl).trans ?_
                    refine ((x_getR D202_170).trans (gd_t h_a0)).trans (bR_c fun r40 => ?_)
                    refine (x_getR D202_173).trans (gd_c fun h41 => bR_c fun r42 => ?_)
                    refine (x_iload1 D202_176 rfl).trans ?_
                    refine (x_cg D202_177 M106 rfl rfl).trans (gd_c fun h43 => ?_)
                    refine (x_cI D202_177 M106 (fun z => by cases z) (I106 _ _) rfl rfl (ok_i M106 (I106 _ _) rfl rfl h43)).trans (bI_c fun v45 m44 => ?_)
                    refine (x_iload2 D202_180 rfl).trans ?_
                    refine (x_iload2 D202_182 rfl).trans ?_
                    refine (x_cg D202_184 M168 rfl rfl).trans (gd_c fun h46 => ?_)
                    refine (x_cI D202_184 M168 (fun z => by cases z) (I168 _ _ _ _) rfl rfl (ok_i M168 (I168 _ _ _ _) rfl rfl h46)).trans (bI_c fun v48 m47 => ?_)
                    refine (x_istore2 D202_187 (ls' := [.ref a0, .int x1, .int x2, .int x3, .int x4, .int x5, .ref r3, .int (v20 + v22), .int (((v20 + v22) + x4) - (1 : Int32)), .int v48, eU]) rfl rfl).trans ?_
                    refine (x_iconst D202_189 (k := 1) (by decide)).trans ?_
                    refine (x_ldc2 D202_190 R202_190).trans ?_
                    refine (x_bipush D202_193 (k := 10) (by decide)).trans ?_
                    refine (x_iload1 D202_195 rfl).trans ?_
                    refine (x_isub D202_196).trans ?_
                    refine (x_i2l D202_197).trans ?_
                    refine (x_cL D202_198 M128  (I128 _ _) rfl rfl (ok_s M128 (I128 _ _) rfl rfl)).trans (bL_c fun v50 m49 => ?_)
                    refine (x_l2i D202_201).trans ?_
                    refine (x_max D202_202 rfl).trans ?_
                    refine (x_istore2 D202_205 (ls' := [.ref a0, .int x1, .int x2, .int x3, .int x4, .int x5, .ref r3, .int (v20 + v22), .int (((v20 + v22) + x4) - (1 : Int32)), .int v48, .int (iMax (1 : Int32) v50.toInt32)]) rfl rfl).trans ?_
                    refine (x_iload2 D202_207 rfl).trans ?_
                    refine (x_ifne D202_209).trans (i_c ?_ ?_)
                    · refine (x_bipush D202_219 (k := 10) (by decide)).trans ?_
                      refine (x_iload2 D202_221 rfl).trans ?_
                      refine (x_div D202_223).trans (z_c ?_)
                      refine (x_i2l D202_224).trans ?_
                      refine (x_iload2 D202_225 rfl).trans ?_
                      refine (x_cL D202_227 M203  (I203 _ _) rfl rfl (ok_s M203 (I203 _ _) rfl rfl)).trans (bL_c fun v52 m51 => ?_)
                      exact x_lret D202_230 M202.2.2.1
                    · refine (x_bipush D202_212 (k := 10) (by decide)).trans ?_
                      refine (x_iload1 D202_214 rfl).trans ?_
                      refine (x_isub D202_215).trans ?_
                      refine (x_goto D202_216).trans ?_
                      refine (x_iload2 D202_221 rfl).trans ?_
                      refine (x_div D202_223).trans (z_c ?_)
                      refine (x_i2l D202_224).trans ?_
                      refine (x_iload2 D202_225 rfl).trans ?_
                      refine (x_cL D202_227 M203  (I203 _ _) rfl rfl (ok_s M203 (I203 _ _) rfl rfl)).trans (bL_c fun v54 m53 => ?_)
                      exact x_lret D202_230 M202.2.2.1
                  · exact x_thr D202_142 rfl
              · exact x_thr D202_64 rfl
theorem D203_0 : decode (mB 203) 0 = .ok (.lconst 1, 1) := by decide +kernel
theorem D203_1 : decode (mB 203) 1 = .ok (.lstore_n 3, 1) := by decide +kernel
theorem D203_2 : decode (mB 203) 2 = .ok (.iconst 0, 1) := by decide +kernel
theorem D203_3 : decode (mB 203) 3 = .ok (.istore 5, 2) := by decide +kernel
theorem D203_5 : decode (mB 203) 5 = .ok (.iload 5, 2) := by decide +kernel
theorem D203_7 : decode (mB 203) 7 = .ok (.iload_n 2, 1) := by decide +kernel
theorem D203_8 : BR 203 8 (.if_icmp .ge 13) (13) 21 := ⟨by decide +kernel, by decide, by decide⟩
theorem D203_21 : decode (mB 203) 21 = .ok (.lload_n 3, 1) := by decide +kernel
theorem D203_22 : decode (mB 203) 22 = .ok (.lreturn, 1) := by decide +kernel
theorem D203_11 : decode (mB 203) 11 = .ok (.lload_n 3, 1) := by decide +kernel
theorem D203_12 : decode (mB 203) 12 = .ok (.lload_n 0, 1) := by decide +kernel
theorem D203_13 : decode (mB 203) 13 = .ok (.lmul, 1) := by decide +kernel
theorem D203_14 : decode (mB 203) 14 = .ok (.lstore_n 3, 1) := by decide +kernel
theorem D203_15 : decode (mB 203) 15 = .ok (.iinc 5 1, 3) := by decide +kernel
theorem D203_18 : BR 203 18 (.goto (-13)) (-13) 5 := ⟨by decide +kernel, by decide, by decide⟩
theorem LC_power_e (d : Nat) (y0 : Int64) (x2 : Int32) (m : eM)  : LC_power d y0 x2 m = LC_power_5 d y0 x2 (1 : Int64) (0 : Int32) m := by
  unfold LC_power
  refine (x_lconst1 D203_0).trans ?_
  refine (x_lstore1 D203_1 (ls' := [.long y0, eU, .int x2, .long (1 : Int64), eU, eU]) rfl rfl).trans ?_
  refine (x_iconst D203_2 (k := 0) (by decide)).trans ?_
  refine (x_istore2 D203_3 (ls' := [.long y0, eU, .int x2, .long (1 : Int64), eU, .int (0 : Int32)]) rfl rfl).trans ?_
  rfl
theorem LC_power_5_e (d : Nat) (y0 : Int64) (x2 : Int32) (y3 : Int64) (x5 : Int32) (m : eM)  : LC_power_5 d y0 x2 y3 x5 m = if x2 ≤ x5 then (yL y3 m) else (LC_power_5 d y0 x2 (y3 * y0) (x5 + (1 : Int32)) m) := by
  unfold LC_power_5
  refine (x_iload2 D203_5 rfl).trans ?_
  refine (x_iload1 D203_7 rfl).trans ?_
  refine (x_cge D203_8).trans (i_c ?_ ?_)
  · refine (x_lload1 D203_21 rfl).trans ?_
    exact x_lret D203_22 M203.2.2.1
  · refine (x_lload1 D203_11 rfl).trans ?_
    refine (x_lload1 D203_12 rfl).trans ?_
    refine (x_lmul D203_13).trans ?_
    refine (x_lstore1 D203_14 (ls' := [.long y0, eU, .int x2, .long (y3 * y0), eU, .int x5]) rfl rfl).trans ?_
    refine (x_iinc D203_15 rfl (k := 1) (by decide) (ls' := [.long y0, eU, .int x2, .long (y3 * y0), eU, .int (x5 + (1 : Int32))]) rfl).trans ?_
    refine (x_goto D203_18).trans ?_
    rfl
