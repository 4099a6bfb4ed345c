/-! ===== equations: LiarsCock$Talk, LiarsCock$Looks, LiarsCock$State, LiarsCock$Aim, LiarsCock$Course, LiarsCock$Search (printed by wip/whole/gen17.py) ===== -/
theorem D3_0 : decode (mB 3) 0 = .ok (.aload_n 0, 1) := by decide +kernel
theorem D3_1 : OB 3 1 := ⟨1, by decide +kernel, by decide +kernel, by decide +kernel⟩
theorem D3_4 : decode (mB 3) 4 = .ok (.aload_n 0, 1) := by decide +kernel
theorem D3_5 : NW 3 5 4 16 := ⟨7, by decide +kernel, by decide +kernel, by decide, by decide +kernel, by decide +kernel⟩
theorem D3_8 : decode (mB 3) 8 = .ok (.dup, 1) := by decide +kernel
theorem D3_9 : CS 3 9 4 1 := ⟨.invokespecial 9, by decide +kernel, by decide +kernel, by decide +kernel, by decide⟩
theorem D3_12 : PF 3 12 6 0 2 := ⟨10, false, by decide +kernel, by decide +kernel, by decide +kernel, by decide⟩
theorem D3_15 : decode (mB 3) 15 = .ok (.aload_n 0, 1) := by decide +kernel
theorem D3_16 : NW 3 16 7 6 := ⟨16, by decide +kernel, by decide +kernel, by decide, by decide +kernel, by decide +kernel⟩
theorem D3_19 : decode (mB 3) 19 = .ok (.dup, 1) := by decide +kernel
theorem D3_20 : CS 3 20 5 1 := ⟨.invokespecial 18, by decide +kernel, by decide +kernel, by decide +kernel, by decide⟩
theorem D3_23 : PF 3 23 6 1 2 := ⟨19, true, by decide +kernel, by decide +kernel, by decide +kernel, by decide⟩
theorem D3_26 : decode (mB 3) 26 = .ok (.aload_n 0, 1) := by decide +kernel
theorem D3_27 : NW 3 27 7 6 := ⟨16, by decide +kernel, by decide +kernel, by decide, by decide +kernel, by decide +kernel⟩
theorem D3_30 : decode (mB 3) 30 = .ok (.dup, 1) := by decide +kernel
theorem D3_31 : CS 3 31 5 1 := ⟨.invokespecial 18, by decide +kernel, by decide +kernel, by decide +kernel, by decide⟩
theorem D3_34 : PF 3 34 6 2 2 := ⟨23, true, by decide +kernel, by decide +kernel, by decide +kernel, by decide⟩
theorem D3_37 : decode (mB 3) 37 = .ok (.aload_n 0, 1) := by decide +kernel
theorem D3_38 : NW 3 38 3 5 := ⟨26, by decide +kernel, by decide +kernel, by decide, by decide +kernel, by decide +kernel⟩
theorem D3_41 : decode (mB 3) 41 = .ok (.dup, 1) := by decide +kernel
theorem D3_42 : CS 3 42 6 1 := ⟨.invokespecial 28, by decide +kernel, by decide +kernel, by decide +kernel, by decide⟩
theorem D3_45 : PF 3 45 6 3 2 := ⟨29, true, by decide +kernel, by decide +kernel, by decide +kernel, by decide⟩
theorem D3_48 : decode (mB 3) 48 = .ok (.aload_n 0, 1) := by decide +kernel
theorem D3_49 : NW 3 49 3 5 := ⟨26, by decide +kernel, by decide +kernel, by decide, by decide +kernel, by decide +kernel⟩
theorem D3_52 : decode (mB 3) 52 = .ok (.dup, 1) := by decide +kernel
theorem D3_53 : CS 3 53 6 1 := ⟨.invokespecial 28, by decide +kernel, by decide +kernel, by decide +kernel, by decide⟩
theorem D3_56 : PF 3 56 6 4 2 := ⟨33, true, by decide +kernel, by decide +kernel, by decide +kernel, by decide⟩
theorem D3_59 : decode (mB 3) 59 = .ok (.return_, 1) := by decide +kernel
theorem St_init_e (d : Nat) (a0 : Nat) (m : eM) (h_a0 : kd a0 = 6) : St_init (d + 1) a0 m = nw m 16 4 fun a1 m2 => gd a1 4 (bV (Pa_init d a1 m2) fun m4 => mQ m4 a0 0 (some a1) fun m5 => nw m5 6 7 fun a6 m7 => gd a6 7 (bV (Tk_init d a6 m7) fun m9 => mQ m9 a0 1 (some a6) fun m10 => nw m10 6 7 fun a11 m12 => gd a11 7 (bV (Tk_init d a11 m12) fun m14 => mQ m14 a0 2 (some a11) fun m15 => nw m15 5 3 fun a16 m17 => gd a16 3 (bV (Lo_init d a16 m17) fun m19 => mQ m19 a0 3 (some a16) fun m20 => nw m20 5 3 fun a21 m22 => gd a21 3 (bV (Lo_init d a21 m22) fun m24 => mQ m24 a0 4 (some a21) fun m25 => yV m25))))) := by
  unfold St_init
  refine (x_aload1 D3_0 rfl).trans ?_
  refine (x_obj D3_1 rfl).trans ?_
  refine (x_aload1 D3_4 rfl).trans ?_
  refine (x_new D3_5).trans (nw_c fun a1 m2 => ?_)
  refine (x_dup1 D3_8 rfl).trans ?_
  refine (x_cg D3_9 M4 rfl rfl).trans (gd_c fun h3 => ?_)
  refine (x_cV D3_9 M4  (I4 _) rfl rfl (ok_i M4 (I4 _) rfl rfl h3)).trans (bV_c fun m4 => ?_)
  refine (x_putR D3_12 h_a0).trans ?_
  refine mQ_i (fun m5 => X (d + 1) 3 15 [.ref a0] [] m5) _ ?_
  intro m5
  refine (x_aload1 D3_15 rfl).trans ?_
  refine (x_new D3_16).trans (nw_c fun a6 m7 => ?_)
  refine (x_dup1 D3_19 rfl).trans ?_
  refine (x_cg D3_20 M5 rfl rfl).trans (gd_c fun h8 => ?_)
  refine (x_cV D3_20 M5  (I5 _) rfl rfl (ok_i M5 (I5 _) rfl rfl h8)).trans (bV_c fun m9 => ?_)
  refine (x_putR D3_23 h_a0).trans ?_
  refine mQ_i (fun m10 => X (d + 1) 3 26 [.ref a0] [] m10) _ ?_
  intro m10
  refine (x_aload1 D3_26 rfl).trans ?_
  refine (x_new D3_27).trans (nw_c fun a11 m12 => ?_)
  refine (x_dup1 D3_30 rfl).trans ?_
  refine (x_cg D3_31 M5 rfl rfl).trans (gd_c fun h13 => ?_)
  refine (x_cV D3_31 M5  (I5 _) rfl rfl (ok_i M5 (I5 _) rfl rfl h13)).trans (bV_c fun m14 => ?_)
  refine (x_putR D3_34 h_a0).trans ?_
  refine mQ_i (fun m15 => X (d + 1) 3 37 [.ref a0] [] m15) _ ?_
  intro m15
  refine (x_aload1 D3_37 rfl).trans ?_
  refine (x_new D3_38).trans (nw_c fun a16 m17 => ?_)
  refine (x_dup1 D3_41 rfl).trans ?_
  refine (x_cg D3_42 M6 rfl rfl).trans (gd_c fun h18 => ?_)
  refine (x_cV D3_42 M6  (I6 _) rfl rfl (ok_i M6 (I6 _) rfl rfl h18)).trans (bV_c fun m19 => ?_)
  refine (x_putR D3_45 h_a0).trans ?_
  refine mQ_i (fun m20 => X (d + 1) 3 48 [.ref a0] [] m20) _ ?_
  intro m20
  refine (x_aload1 D3_48 rfl).trans ?_
  refine (x_new D3_49).trans (nw_c fun a21 m22 => ?_)
  refine (x_dup1 D3_52 rfl).trans ?_
  refine (x_cg D3_53 M6 rfl rfl).trans (gd_c fun h23 => ?_)
  refine (x_cV D3_53 M6  (I6 _) rfl rfl (ok_i M6 (I6 _) rfl rfl h23)).trans (bV_c fun m24 => ?_)
  refine (x_putR D3_56 h_a0).trans ?_
  refine mQ_i (fun m25 => X (d + 1) 3 59 [.ref a0] [] m25) _ ?_
  intro m25
  exact x_vret D3_59 M3.2.2.1
theorem D5_0 : decode (mB 5) 0 = .ok (.aload_n 0, 1) := by decide +kernel
theorem D5_1 : OB 5 1 := ⟨3, by decide +kernel, by decide +kernel, by decide +kernel⟩
theorem D5_4 : decode (mB 5) 4 = .ok (.aload_n 0, 1) := by decide +kernel
theorem D5_5 : decode (mB 5) 5 = .ok (.bipush 31, 2) := by decide +kernel
theorem D5_7 : decode (mB 5) 7 = .ok (.newarray .int, 2) := by decide +kernel
theorem D5_9 : PF 5 9 7 0 2 := ⟨11, true, by decide +kernel, by decide +kernel, by decide +kernel, by decide⟩
theorem D5_12 : decode (mB 5) 12 = .ok (.aload_n 0, 1) := by decide +kernel
theorem D5_13 : decode (mB 5) 13 = .ok (.bipush 31, 2) := by decide +kernel
theorem D5_15 : decode (mB 5) 15 = .ok (.newarray .int, 2) := by decide +kernel
theorem D5_17 : PF 5 17 7 1 2 := ⟨15, true, by decide +kernel, by decide +kernel, by decide +kernel, by decide⟩
theorem D5_20 : decode (mB 5) 20 = .ok (.aload_n 0, 1) := by decide +kernel
theorem D5_21 : decode (mB 5) 21 = .ok (.bipush 31, 2) := by decide +kernel
theorem D5_23 : decode (mB 5) 23 = .ok (.newarray .long, 2) := by decide +kernel
theorem D5_25 : PF 5 25 7 2 2 := ⟨18, true, by decide +kernel, by decide +kernel, by decide +kernel, by decide⟩
theorem D5_28 : decode (mB 5) 28 = .ok (.aload_n 0, 1) := by decide +kernel
theorem D5_29 : decode (mB 5) 29 = .ok (.bipush 31, 2) := by decide +kernel
theorem D5_31 : decode (mB 5) 31 = .ok (.newarray .long, 2) := by decide +kernel
theorem D5_33 : PF 5 33 7 3 2 := ⟨22, true, by decide +kernel, by decide +kernel, by decide +kernel, by decide⟩
theorem D5_36 : decode (mB 5) 36 = .ok (.aload_n 0, 1) := by decide +kernel
theorem D5_37 : decode (mB 5) 37 = .ok (.bipush 31, 2) := by decide +kernel
theorem D5_39 : decode (mB 5) 39 = .ok (.newarray .long, 2) := by decide +kernel
theorem D5_41 : PF 5 41 7 4 2 := ⟨25, true, by decide +kernel, by decide +kernel, by decide +kernel, by decide⟩
theorem D5_44 : decode (mB 5) 44 = .ok (.return_, 1) := by decide +kernel
theorem Tk_init_e (d : Nat) (a0 : Nat) (m : eM) (h_a0 : kd a0 = 7) : Tk_init (d + 1) a0 m = nA m 20 (31 : Int32) fun a1 m2 => mQ m2 a0 0 (some a1) fun m3 => nA m3 20 (31 : Int32) fun a4 m5 => mQ m5 a0 1 (some a4) fun m6 => nA m6 21 (31 : Int32) fun a7 m8 => mQ m8 a0 2 (some a7) fun m9 => nA m9 21 (31 : Int32) fun a10 m11 => mQ m11 a0 3 (some a10) fun m12 => nA m12 21 (31 : Int32) fun a13 m14 => mQ m14 a0 4 (some a13) fun m15 => yV m15 := by
  unfold Tk_init
  refine (x_aload1 D5_0 rfl).trans ?_
  refine (x_obj D5_1 rfl).trans ?_
  refine (x_aload1 D5_4 rfl).trans ?_
  refine (x_bipush D5_5 (k := 31) (by decide)).trans ?_
  refine (x_newI D5_7).trans (nA_c fun a1 m2 => ?_)
  refine (x_putR D5_9 h_a0).trans ?_
  refine mQ_i (fun m3 => X (d + 1) 5 12 [.ref a0] [] m3) _ ?_
  intro m3
  refine (x_aload1 D5_12 rfl).trans ?_
  refine (x_bipush D5_13 (k := 31) (by decide)).trans ?_
  refine (x_newI D5_15).trans (nA_c fun a4 m5 => ?_)
  refine (x_putR D5_17 h_a0).trans ?_
  refine mQ_i (fun m6 => X (d + 1) 5 20 [.ref a0] [] m6) _ ?_
  intro m6
  refine (x_aload1 D5_20 rfl).trans ?_
  refine (x_bipush D5_21 (k := 31) (by decide)).trans ?_
  refine (x_newJ D5_23).trans (nA_c fun a7 m8 => ?_)
  refine (x_putR D5_25 h_a0).trans ?_
  refine mQ_i (fun m9 => X (d + 1) 5 28 [.ref a0] [] m9) _ ?_
  intro m9
  refine (x_aload1 D5_28 rfl).trans ?_
  refine (x_bipush D5_29 (k := 31) (by decide)).trans ?_
  refine (x_newJ D5_31).trans (nA_c fun a10 m11 => ?_)
  refine (x_putR D5_33 h_a0).trans ?_
  refine mQ_i (fun m12 => X (d + 1) 5 36 [.ref a0] [] m12) _ ?_
  intro m12
  refine (x_aload1 D5_36 rfl).trans ?_
  refine (x_bipush D5_37 (k := 31) (by decide)).trans ?_
  refine (x_newJ D5_39).trans (nA_c fun a13 m14 => ?_)
  refine (x_putR D5_41 h_a0).trans ?_
  refine mQ_i (fun m15 => X (d + 1) 5 44 [.ref a0] [] m15) _ ?_
  intro m15
  exact x_vret D5_44 M5.2.2.1
theorem D6_0 : decode (mB 6) 0 = .ok (.aload_n 0, 1) := by decide +kernel
theorem D6_1 : OB 6 1 := ⟨3, by decide +kernel, by decide +kernel, by decide +kernel⟩
theorem D6_4 : decode (mB 6) 4 = .ok (.aload_n 0, 1) := by decide +kernel
theorem D6_5 : decode (mB 6) 5 = .ok (.bipush 12, 2) := by decide +kernel
theorem D6_7 : decode (mB 6) 7 = .ok (.newarray .int, 2) := by decide +kernel
theorem D6_9 : PF 6 9 3 0 2 := ⟨9, true, by decide +kernel, by decide +kernel, by decide +kernel, by decide⟩
theorem D6_12 : decode (mB 6) 12 = .ok (.aload_n 0, 1) := by decide +kernel
theorem D6_13 : decode (mB 6) 13 = .ok (.bipush 12, 2) := by decide +kernel
theorem D6_15 : decode (mB 6) 15 = .ok (.newarray .int, 2) := by decide +kernel
theorem D6_17 : PF 6 17 3 1 2 := ⟨15, true, by decide +kernel, by decide +kernel, by decide +kernel, by decide⟩
theorem D6_20 : decode (mB 6) 20 = .ok (.aload_n 0, 1) := by decide +kernel
theorem D6_21 : decode (mB 6) 21 = .ok (.bipush 12, 2) := by decide +kernel
theorem D6_23 : decode (mB 6) 23 = .ok (.newarray .int, 2) := by decide +kernel
theorem D6_25 : PF 6 25 3 2 2 := ⟨18, true, by decide +kernel, by decide +kernel, by decide +kernel, by decide⟩
theorem D6_28 : decode (mB 6) 28 = .ok (.aload_n 0, 1) := by decide +kernel
theorem D6_29 : decode (mB 6) 29 = .ok (.bipush 12, 2) := by decide +kernel
theorem D6_31 : decode (mB 6) 31 = .ok (.newarray .int, 2) := by decide +kernel
theorem D6_33 : PF 6 33 3 3 2 := ⟨21, true, by decide +kernel, by decide +kernel, by decide +kernel, by decide⟩
theorem D6_36 : decode (mB 6) 36 = .ok (.return_, 1) := by decide +kernel
theorem Lo_init_e (d : Nat) (a0 : Nat) (m : eM) (h_a0 : kd a0 = 3) : Lo_init (d + 1) a0 m = nA m 20 (12 : Int32) fun a1 m2 => mQ m2 a0 0 (some a1) fun m3 => nA m3 20 (12 : Int32) fun a4 m5 => mQ m5 a0 1 (some a4) fun m6 => nA m6 20 (12 : Int32) fun a7 m8 => mQ m8 a0 2 (some a7) fun m9 => nA m9 20 (12 : Int32) fun a10 m11 => mQ m11 a0 3 (some a10) fun m12 => yV m12 := by
  unfold Lo_init
  refine (x_aload1 D6_0 rfl).trans ?_
  refine (x_obj D6_1 rfl).trans ?_
  refine (x_aload1 D6_4 rfl).trans ?_
  refine (x_bipush D6_5 (k := 12) (by decide)).trans ?_
  refine (x_newI D6_7).trans (nA_c fun a1 m2 => ?_)
  refine (x_putR D6_9 h_a0).trans ?_
  refine mQ_i (fun m3 => X (d + 1) 6 12 [.ref a0] [] m3) _ ?_
  intro m3
  refine (x_aload1 D6_12 rfl).trans ?_
  refine (x_bipush D6_13 (k := 12) (by decide)).trans ?_
  refine (x_newI D6_15).trans (nA_c fun a4 m5 => ?_)
  refine (x_putR D6_17 h_a0).trans ?_
  refine mQ_i (fun m6 => X (d + 1) 6 20 [.ref a0] [] m6) _ ?_
  intro m6
  refine (x_aload1 D6_20 rfl).trans ?_
  refine (x_bipush D6_21 (k := 12) (by decide)).trans ?_
  refine (x_newI D6_23).trans (nA_c fun a7 m8 => ?_)
  refine (x_putR D6_25 h_a0).trans ?_
  refine mQ_i (fun m9 => X (d + 1) 6 28 [.ref a0] [] m9) _ ?_
  intro m9
  refine (x_aload1 D6_28 rfl).trans ?_
  refine (x_bipush D6_29 (k := 12) (by decide)).trans ?_
  refine (x_newI D6_31).trans (nA_c fun a10 m11 => ?_)
  refine (x_putR D6_33 h_a0).trans ?_
  refine mQ_i (fun m12 => X (d + 1) 6 36 [.ref a0] [] m12) _ ?_
  intro m12
  exact x_vret D6_36 M6.2.2.1
theorem D7_0 : decode (mB 7) 0 = .ok (.aload_n 0, 1) := by decide +kernel
theorem D7_1 : OB 7 1 := ⟨3, by decide +kernel, by decide +kernel, by decide +kernel⟩
theorem D7_4 : decode (mB 7) 4 = .ok (.aload_n 0, 1) := by decide +kernel
theorem D7_5 : decode (mB 7) 5 = .ok (.bipush 7, 2) := by decide +kernel
theorem D7_7 : decode (mB 7) 7 = .ok (.newarray .long, 2) := by decide +kernel
theorem D7_9 : PF 7 9 0 0 2 := ⟨9, true, by decide +kernel, by decide +kernel, by decide +kernel, by decide⟩
theorem D7_12 : decode (mB 7) 12 = .ok (.aload_n 0, 1) := by decide +kernel
theorem D7_13 : decode (mB 7) 13 = .ok (.bipush 7, 2) := by decide +kernel
theorem D7_15 : decode (mB 7) 15 = .ok (.newarray .long, 2) := by decide +kernel
theorem D7_17 : PF 7 17 0 1 2 := ⟨15, true, by decide +kernel, by decide +kernel, by decide +kernel, by decide⟩
theorem D7_20 : decode (mB 7) 20 = .ok (.return_, 1) := by decide +kernel
theorem Ai_init_e (d : Nat) (a0 : Nat) (m : eM) (h_a0 : kd a0 = 0) : Ai_init (d + 1) a0 m = nA m 21 (7 : Int32) fun a1 m2 => mQ m2 a0 0 (some a1) fun m3 => nA m3 21 (7 : Int32) fun a4 m5 => mQ m5 a0 1 (some a4) fun m6 => yV m6 := by
  unfold Ai_init
  refine (x_aload1 D7_0 rfl).trans ?_
  refine (x_obj D7_1 rfl).trans ?_
  refine (x_aload1 D7_4 rfl).trans ?_
  refine (x_bipush D7_5 (k := 7) (by decide)).trans ?_
  refine (x_newJ D7_7).trans (nA_c fun a1 m2 => ?_)
  refine (x_putR D7_9 h_a0).trans ?_
  refine mQ_i (fun m3 => X (d + 1) 7 12 [.ref a0] [] m3) _ ?_
  intro m3
  refine (x_aload1 D7_12 rfl).trans ?_
  refine (x_bipush D7_13 (k := 7) (by decide)).trans ?_
  refine (x_newJ D7_15).trans (nA_c fun a4 m5 => ?_)
  refine (x_putR D7_17 h_a0).trans ?_
  refine mQ_i (fun m6 => X (d + 1) 7 20 [.ref a0] [] m6) _ ?_
  intro m6
  exact x_vret D7_20 M7.2.2.1
theorem D8_0 : decode (mB 8) 0 = .ok (.aload_n 0, 1) := by decide +kernel
theorem D8_1 : OB 8 1 := ⟨3, by decide +kernel, by decide +kernel, by decide +kernel⟩
theorem D8_4 : decode (mB 8) 4 = .ok (.aload_n 0, 1) := by decide +kernel
theorem D8_5 : decode (mB 8) 5 = .ok (.bipush 25, 2) := by decide +kernel
theorem D8_7 : decode (mB 8) 7 = .ok (.newarray .int, 2) := by decide +kernel
theorem D8_9 : PF 8 9 1 0 2 := ⟨11, true, by decide +kernel, by decide +kernel, by decide +kernel, by decide⟩
theorem D8_12 : decode (mB 8) 12 = .ok (.aload_n 0, 1) := by decide +kernel
theorem D8_13 : decode (mB 8) 13 = .ok (.bipush 25, 2) := by decide +kernel
theorem D8_15 : decode (mB 8) 15 = .ok (.newarray .int, 2) := by decide +kernel
theorem D8_17 : PF 8 17 1 1 2 := ⟨15, true, by decide +kernel, by decide +kernel, by decide +kernel, by decide⟩
theorem D8_20 : decode (mB 8) 20 = .ok (.return_, 1) := by decide +kernel
theorem Co_init_e (d : Nat) (a0 : Nat) (m : eM) (h_a0 : kd a0 = 1) : Co_init (d + 1) a0 m = nA m 20 (25 : Int32) fun a1 m2 => mQ m2 a0 0 (some a1) fun m3 => nA m3 20 (25 : Int32) fun a4 m5 => mQ m5 a0 1 (some a4) fun m6 => yV m6 := by
  unfold Co_init
  refine (x_aload1 D8_0 rfl).trans ?_
  refine (x_obj D8_1 rfl).trans ?_
  refine (x_aload1 D8_4 rfl).trans ?_
  refine (x_bipush D8_5 (k := 25) (by decide)).trans ?_
  refine (x_newI D8_7).trans (nA_c fun a1 m2 => ?_)
  refine (x_putR D8_9 h_a0).trans ?_
  refine mQ_i (fun m3 => X (d + 1) 8 12 [.ref a0] [] m3) _ ?_
  intro m3
  refine (x_aload1 D8_12 rfl).trans ?_
  refine (x_bipush D8_13 (k := 25) (by decide)).trans ?_
  refine (x_newI D8_15).trans (nA_c fun a4 m5 => ?_)
  refine (x_putR D8_17 h_a0).trans ?_
  refine mQ_i (fun m6 => X (d + 1) 8 20 [.ref a0] [] m6) _ ?_
  intro m6
  exact x_vret D8_20 M8.2.2.1
theorem D9_0 : decode (mB 9) 0 = .ok (.aload_n 0, 1) := by decide +kernel
theorem D9_1 : OB 9 1 := ⟨3, by decide +kernel, by decide +kernel, by decide +kernel⟩
theorem D9_4 : decode (mB 9) 4 = .ok (.aload_n 0, 1) := by decide +kernel
theorem D9_5 : decode (mB 9) 5 = .ok (.bipush 24, 2) := by decide +kernel
theorem D9_7 : decode (mB 9) 7 = .ok (.newarray .int, 2) := by decide +kernel
theorem D9_9 : PF 9 9 5 0 2 := ⟨9, true, by decide +kernel, by decide +kernel, by decide +kernel, by decide⟩
theorem D9_12 : decode (mB 9) 12 = .ok (.aload_n 0, 1) := by decide +kernel
theorem D9_13 : decode (mB 9) 13 = .ok (.sipush 168, 3) := by decide +kernel
theorem D9_16 : decode (mB 9) 16 = .ok (.newarray .long, 2) := by decide +kernel
theorem D9_18 : PF 9 18 5 1 2 := ⟨15, true, by decide +kernel, by decide +kernel, by decide +kernel, by decide⟩
theorem D9_21 : decode (mB 9) 21 = .ok (.aload_n 0, 1) := by decide +kernel
theorem D9_22 : decode (mB 9) 22 = .ok (.bipush 7, 2) := by decide +kernel
theorem D9_24 : decode (mB 9) 24 = .ok (.newarray .long, 2) := by decide +kernel
theorem D9_26 : PF 9 26 5 2 2 := ⟨19, true, by decide +kernel, by decide +kernel, by decide +kernel, by decide⟩
theorem D9_29 : decode (mB 9) 29 = .ok (.aload_n 0, 1) := by decide +kernel
theorem D9_30 : decode (mB 9) 30 = .ok (.iconst 3, 1) := by decide +kernel
theorem D9_31 : decode (mB 9) 31 = .ok (.newarray .int, 2) := by decide +kernel
theorem D9_33 : PF 9 33 5 3 2 := ⟨22, true, by decide +kernel, by decide +kernel, by decide +kernel, by decide⟩
theorem D9_36 : decode (mB 9) 36 = .ok (.return_, 1) := by decide +kernel
theorem Se_init_e (d : Nat) (a0 : Nat) (m : eM) (h_a0 : kd a0 = 5) : Se_init (d + 1) a0 m = nA m 20 (24 : Int32) fun a1 m2 => mQ m2 a0 0 (some a1) fun m3 => nA m3 21 (168 : Int32) fun a4 m5 => mQ m5 a0 1 (some a4) fun m6 => nA m6 21 (7 : Int32) fun a7 m8 => mQ m8 a0 2 (some a7) fun m9 => nA m9 20 (3 : Int32) fun a10 m11 => mQ m11 a0 3 (some a10) fun m12 => yV m12 := by
  unfold Se_init
  refine (x_aload1 D9_0 rfl).trans ?_
  refine (x_obj D9_1 rfl).trans ?_
  refine (x_aload1 D9_4 rfl).trans ?_
  refine (x_bipush D9_5 (k := 24) (by decide)).trans ?_
  refine (x_newI D9_7).trans (nA_c fun a1 m2 => ?_)
  refine (x_putR D9_9 h_a0).trans ?_
  refine mQ_i (fun m3 => X (d + 1) 9 12 [.ref a0] [] m3) _ ?_
  intro m3
  refine (x_aload1 D9_12 rfl).trans ?_
  refine (x_sipush D9_13 (k := 168) (by decide)).trans ?_
  refine (x_newJ D9_16).trans (nA_c fun a4 m5 => ?_)
  refine (x_putR D9_18 h_a0).trans ?_
  refine mQ_i (fun m6 => X (d + 1) 9 21 [.ref a0] [] m6) _ ?_
  intro m6
  refine (x_aload1 D9_21 rfl).trans ?_
  refine (x_bipush D9_22 (k := 7) (by decide)).trans ?_
  refine (x_newJ D9_24).trans (nA_c fun a7 m8 => ?_)
  refine (x_putR D9_26 h_a0).trans ?_
  refine mQ_i (fun m9 => X (d + 1) 9 29 [.ref a0] [] m9) _ ?_
  intro m9
  refine (x_aload1 D9_29 rfl).trans ?_
  refine (x_iconst D9_30 (k := 3) (by decide)).trans ?_
  refine (x_newI D9_31).trans (nA_c fun a10 m11 => ?_)
  refine (x_putR D9_33 h_a0).trans ?_
  refine mQ_i (fun m12 => X (d + 1) 9 36 [.ref a0] [] m12) _ ?_
  intro m12
  exact x_vret D9_36 M9.2.2.1
theorem D62_0 : decode (mB 62) 0 = .ok (.aload_n 0, 1) := by decide +kernel
theorem D62_1 : decode (mB 62) 1 = .ok (.aload_n 1, 1) := by decide +kernel
theorem D62_2 : PF 62 2 6 0 2 := ⟨10, false, by decide +kernel, by decide +kernel, by decide +kernel, by decide⟩
theorem D62_5 : decode (mB 62) 5 = .ok (.aload_n 0, 1) := by decide +kernel
theorem D62_6 : GF 62 6 6 1 2 := ⟨19, true, by decide +kernel, by decide +kernel⟩
theorem D62_9 : CS 62 9 63 0 := ⟨.invokevirtual 36, by decide +kernel, by decide +kernel, by decide +kernel, by decide⟩
theorem D62_12 : decode (mB 62) 12 = .ok (.aload_n 0, 1) := by decide +kernel
theorem D62_13 : GF 62 13 6 2 2 := ⟨23, true, by decide +kernel, by decide +kernel⟩
theorem D62_16 : CS 62 16 63 0 := ⟨.invokevirtual 36, by decide +kernel, by decide +kernel, by decide +kernel, by decide⟩
theorem D62_19 : decode (mB 62) 19 = .ok (.aload_n 0, 1) := by decide +kernel
theorem D62_20 : GF 62 20 6 3 2 := ⟨29, true, by decide +kernel, by decide +kernel⟩
theorem D62_23 : CS 62 23 64 0 := ⟨.invokevirtual 39, by decide +kernel, by decide +kernel, by decide +kernel, by decide⟩
theorem D62_26 : decode (mB 62) 26 = .ok (.aload_n 0, 1) := by decide +kernel
theorem D62_27 : GF 62 27 6 4 2 := ⟨33, true, by decide +kernel, by decide +kernel⟩
theorem D62_30 : CS 62 30 64 0 := ⟨.invokevirtual 39, by decide +kernel, by decide +kernel, by decide +kernel, by decide⟩
theorem D62_33 : decode (mB 62) 33 = .ok (.aload_n 0, 1) := by decide +kernel
theorem D62_34 : decode (mB 62) 34 = .ok (.iconst 0, 1) := by decide +kernel
theorem D62_35 : PF 62 35 6 5 0 := ⟨40, false, by decide +kernel, by decide +kernel, by decide +kernel, by decide⟩
theorem D62_38 : decode (mB 62) 38 = .ok (.return_, 1) := by decide +kernel
theorem St_begin_e (d : Nat) (a0 : Nat) (a1 : Nat) (m : eM) (h_a0 : kd a0 = 6) (h_a1 : kd a1 = 4) : St_begin (d + 1) a0 a1 m = mQ m a0 0 (some a1) fun m1 => bR (gR m1 a0 1) fun r2 => gd r2 7 (bV (Tk_clear d r2 m1) fun m4 => bR (gR m4 a0 2) fun r5 => gd r5 7 (bV (Tk_clear d r5 m4) fun m7 => bR (gR m7 a0 3) fun r8 => gd r8 3 (bV (Lo_clear d r8 m7) fun m10 => bR (gR m10 a0 4) fun r11 => gd r11 3 (bV (Lo_clear d r11 m10) fun m13 => mI m13 a0 5 (0 : Int32) fun m14 => yV m14)))) := by
  unfold St_begin
  refine (x_aload1 D62_0 rfl).trans ?_
  refine (x_aload1 D62_1 rfl).trans ?_
  refine (x_putR D62_2 h_a0).trans ?_
  refine mQ_i (fun m1 => X (d + 1) 62 5 [.ref a0, .ref a1] [] m1) _ ?_
  intro m1
  refine (x_aload1 D62_5 rfl).trans ?_
  refine ((x_getR D62_6).trans (gd_t h_a0)).trans (bR_c fun r2 => ?_)
  refine (x_cg D62_9 M63 rfl rfl).trans (gd_c fun h3 => ?_)
  refine (x_cV D62_9 M63  (I63 _) rfl rfl (ok_i M63 (I63 _) rfl rfl h3)).trans (bV_c fun m4 => ?_)
  refine (x_aload1 D62_12 rfl).trans ?_
  refine ((x_getR D62_13).trans (gd_t h_a0)).trans (bR_c fun r5 => ?_)
  refine (x_cg D62_16 M63 rfl rfl).trans (gd_c fun h6 => ?_)
  refine (x_cV D62_16 M63  (I63 _) rfl rfl (ok_i M63 (I63 _) rfl rfl h6)).trans (bV_c fun m7 => ?_)
  refine (x_aload1 D62_19 rfl).trans ?_
  refine ((x_getR D62_20).trans (gd_t h_a0)).trans (bR_c fun r8 => ?_)
  refine (x_cg D62_23 M64 rfl rfl).trans (gd_c fun h9 => ?_)
  refine (x_cV D62_23 M64  (I64 _) rfl rfl (ok_i M64 (I64 _) rfl rfl h9)).trans (bV_c fun m10 => ?_)
  refine (x_aload1 D62_26 rfl).trans ?_
  refine ((x_getR D62_27).trans (gd_t h_a0)).trans (bR_c fun r11 => ?_)
  refine (x_cg D62_30 M64 rfl rfl).trans (gd_c fun h12 => ?_)
  refine (x_cV D62_30 M64  (I64 _) rfl rfl (ok_i M64 (I64 _) rfl rfl h12)).trans (bV_c fun m13 => ?_)
  refine (x_aload1 D62_33 rfl).trans ?_
  refine (x_iconst D62_34 (k := 0) (by decide)).trans ?_
  refine (x_putI D62_35 h_a0).trans ?_
  refine mI_i (fun m14 => X (d + 1) 62 38 [.ref a0, .ref a1] [] m14) _ ?_
  intro m14
  exact x_vret D62_38 M62.2.2.1
theorem D63_0 : decode (mB 63) 0 = .ok (.aload_n 0, 1) := by decide +kernel
theorem D63_1 : decode (mB 63) 1 = .ok (.iconst 0, 1) := by decide +kernel
theorem D63_2 : PF 63 2 7 5 0 := ⟨28, false, by decide +kernel, by decide +kernel, by decide +kernel, by decide⟩
theorem D63_5 : decode (mB 63) 5 = .ok (.return_, 1) := by decide +kernel
theorem Tk_clear_e (d : Nat) (a0 : Nat) (m : eM) (h_a0 : kd a0 = 7) : Tk_clear d a0 m = mI m a0 5 (0 : Int32) fun m1 => yV m1 := by
  unfold Tk_clear
  refine (x_aload1 D63_0 rfl).trans ?_
  refine (x_iconst D63_1 (k := 0) (by decide)).trans ?_
  refine (x_putI D63_2 h_a0).trans ?_
  refine mI_i (fun m1 => X d 63 5 [.ref a0] [] m1) _ ?_
  intro m1
  exact x_vret D63_5 M63.2.2.1
theorem D64_0 : decode (mB 64) 0 = .ok (.aload_n 0, 1) := by decide +kernel
theorem D64_1 : decode (mB 64) 1 = .ok (.iconst 0, 1) := by decide +kernel
theorem D64_2 : PF 64 2 3 4 0 := ⟨24, false, by decide +kernel, by decide +kernel, by decide +kernel, by decide⟩
theorem D64_5 : decode (mB 64) 5 = .ok (.return_, 1) := by decide +kernel
theorem Lo_clear_e (d : Nat) (a0 : Nat) (m : eM) (h_a0 : kd a0 = 3) : Lo_clear d a0 m = mI m a0 4 (0 : Int32) fun m1 => yV m1 := by
  unfold Lo_clear
  refine (x_aload1 D64_0 rfl).trans ?_
  refine (x_iconst D64_1 (k := 0) (by decide)).trans ?_
  refine (x_putI D64_2 h_a0).trans ?_
  refine mI_i (fun m1 => X d 64 5 [.ref a0] [] m1) _ ?_
  intro m1
  exact x_vret D64_5 M64.2.2.1
theorem D70_0 : decode (mB 70) 0 = .ok (.aload_n 0, 1) := by decide +kernel
theorem D70_1 : GF 70 1 7 5 0 := ⟨28, false, by decide +kernel, by decide +kernel⟩
theorem D70_4 : decode (mB 70) 4 = .ok (.ireturn, 1) := by decide +kernel
theorem Tk_size_e (d : Nat) (a0 : Nat) (m : eM) (h_a0 : kd a0 = 7) : Tk_size d a0 m = yI (gI m a0 5) m := by
  unfold Tk_size
  refine (x_aload1 D70_0 rfl).trans ?_
  refine ((x_getI D70_1).trans (gd_t h_a0)).trans ?_
  exact x_iret D70_4 M70.2.2.1
theorem D71_0 : decode (mB 71) 0 = .ok (.aload_n 0, 1) := by decide +kernel
theorem D71_1 : decode (mB 71) 1 = .ok (.aload_n 0, 1) := by decide +kernel
theorem D71_2 : GF 71 2 7 5 0 := ⟨28, false, by decide +kernel, by decide +kernel⟩
theorem D71_5 : decode (mB 71) 5 = .ok (.iconst 1, 1) := by decide +kernel
theorem D71_6 : decode (mB 71) 6 = .ok (.isub, 1) := by decide +kernel
theorem D71_7 : CS 71 7 72 0 := ⟨.invokevirtual 36, by decide +kernel, by decide +kernel, by decide +kernel, by decide⟩
theorem D71_10 : decode (mB 71) 10 = .ok (.ireturn, 1) := by decide +kernel
theorem Tk_lastMinute_e (d : Nat) (a0 : Nat) (m : eM) (h_a0 : kd a0 = 7) : Tk_lastMinute (d + 1) a0 m = bI (Tk_minute d a0 ((gI m a0 5) - (1 : Int32)) m) fun v2 m1 => yI v2 m1 := by
  unfold Tk_lastMinute
  refine (x_aload1 D71_0 rfl).trans ?_
  refine (x_aload1 D71_1 rfl).trans ?_
  refine ((x_getI D71_2).trans (gd_t h_a0)).trans ?_
  refine (x_iconst D71_5 (k := 1) (by decide)).trans ?_
  refine (x_isub D71_6).trans ?_
  refine (x_cI D71_7 M72 (fun z => by cases z) (I72 _ _) rfl rfl (ok_i M72 (I72 _ _) rfl rfl h_a0)).trans (bI_c fun v2 m1 => ?_)
  exact x_iret D71_10 M71.2.2.1
theorem D72_0 : decode (mB 72) 0 = .ok (.aload_n 0, 1) := by decide +kernel
theorem D72_1 : decode (mB 72) 1 = .ok (.iload_n 1, 1) := by decide +kernel
theorem D72_2 : CS 72 2 73 0 := ⟨.invokevirtual 32, by decide +kernel, by decide +kernel, by decide +kernel, by decide⟩
theorem D72_5 : BR 72 5 (.ifCond .eq 21) (21) 26 := ⟨by decide +kernel, by decide, by decide⟩
theorem D72_26 : decode (mB 72) 26 = .ok (.iconst 0, 1) := by decide +kernel
theorem D72_27 : decode (mB 72) 27 = .ok (.ireturn, 1) := by decide +kernel
theorem D72_8 : decode (mB 72) 8 = .ok (.iload_n 1, 1) := by decide +kernel
theorem D72_9 : decode (mB 72) 9 = .ok (.aload_n 0, 1) := by decide +kernel
theorem D72_10 : GF 72 10 7 1 2 := ⟨15, true, by decide +kernel, by decide +kernel⟩
theorem D72_13 : decode (mB 72) 13 = .ok (.arraylength, 1) := by decide +kernel
theorem D72_14 : BR 72 14 (.if_icmp .ge 12) (12) 26 := ⟨by decide +kernel, by decide, by decide⟩
theorem D72_17 : decode (mB 72) 17 = .ok (.aload_n 0, 1) := by decide +kernel
theorem D72_18 : GF 72 18 7 1 2 := ⟨15, true, by decide +kernel, by decide +kernel⟩
theorem D72_21 : decode (mB 72) 21 = .ok (.iload_n 1, 1) := by decide +kernel
theorem D72_22 : decode (mB 72) 22 = .ok (.iaload, 1) := by decide +kernel
theorem D72_23 : BR 72 23 (.goto 4) (4) 27 := ⟨by decide +kernel, by decide, by decide⟩
theorem Tk_minute_e (d : Nat) (a0 : Nat) (x1 : Int32) (m : eM) (h_a0 : kd a0 = 7) : Tk_minute (d + 1) a0 x1 m = bI (Tk_isIn d a0 x1 m) fun v2 m1 => if v2 = 0 then (yI (0 : Int32) m1) else (bR (gR m1 a0 1) fun r3 => gl r3 (if ((aln m1 r3).toInt32) ≤ x1 then (yI (0 : Int32) m1) else (bR (gR m1 a0 1) fun r4 => ga m1 r4 20 x1 (yI (gI m1 r4 x1.toNatClampNeg) m1)))) := by
  unfold Tk_minute
  refine (x_aload1 D72_0 rfl).trans ?_
  refine (x_iload1 D72_1 rfl).trans ?_
  refine (x_cI D72_2 M73 (fun z => by cases z) (I73 _ _) rfl rfl (ok_i M73 (I73 _ _) rfl rfl h_a0)).trans (bI_c fun v2 m1 => ?_)
  refine (x_ifeq D72_5).trans (i_c ?_ ?_)
  · refine (x_iconst D72_26 (k := 0) (by decide)).trans ?_
    exact x_iret D72_27 M72.2.2.1
  · refine (x_iload1 D72_8 rfl).trans ?_
    refine (x_aload1 D72_9 rfl).trans ?_
    refine ((x_getR D72_10).trans (gd_t h_a0)).trans (bR_c fun r3 => ?_)
    refine (x_alen D72_13).trans (gl_c ?_)
    refine (x_cge D72_14).trans (i_c ?_ ?_)
    · refine (x_iconst D72_26 (k := 0) (by decide)).trans ?_
      exact x_iret D72_27 M72.2.2.1
    · refine (x_aload1 D72_17 rfl).trans ?_
      refine ((x_getR D72_18).trans (gd_t h_a0)).trans (bR_c fun r4 => ?_)
      refine (x_iload1 D72_21 rfl).trans ?_
      refine (x_iaload D72_22).trans (ga_c ?_)
      refine (x_goto D72_23).trans ?_
      exact x_iret D72_27 M72.2.2.1
theorem D73_0 : decode (mB 73) 0 = .ok (.iload_n 1, 1) := by decide +kernel
theorem D73_1 : BR 73 1 (.ifCond .lt 21) (21) 22 := ⟨by decide +kernel, by decide, by decide⟩
theorem D73_22 : decode (mB 73) 22 = .ok (.iconst 0, 1) := by decide +kernel
theorem D73_23 : decode (mB 73) 23 = .ok (.ireturn, 1) := by decide +kernel
theorem D73_4 : decode (mB 73) 4 = .ok (.iload_n 1, 1) := by decide +kernel
theorem D73_5 : decode (mB 73) 5 = .ok (.aload_n 0, 1) := by decide +kernel
theorem D73_6 : GF 73 6 7 5 0 := ⟨28, false, by decide +kernel, by decide +kernel⟩
theorem D73_9 : BR 73 9 (.if_icmp .ge 13) (13) 22 := ⟨by decide +kernel, by decide, by decide⟩
theorem D73_12 : decode (mB 73) 12 = .ok (.iload_n 1, 1) := by decide +kernel
theorem D73_13 : decode (mB 73) 13 = .ok (.bipush 31, 2) := by decide +kernel
theorem D73_15 : BR 73 15 (.if_icmp .ge 7) (7) 22 := ⟨by decide +kernel, by decide, by decide⟩
theorem D73_18 : decode (mB 73) 18 = .ok (.iconst 1, 1) := by decide +kernel
theorem D73_19 : BR 73 19 (.goto 4) (4) 23 := ⟨by decide +kernel, by decide, by decide⟩
theorem Tk_isIn_e (d : Nat) (a0 : Nat) (x1 : Int32) (m : eM) (h_a0 : kd a0 = 7) : Tk_isIn d a0 x1 m = if x1 < 0 then (yI (0 : Int32) m) else (if (gI m a0 5) ≤ x1 then (yI (0 : Int32) m) else (if (31 : Int32) ≤ x1 then (yI (0 : Int32) m) else (yI (1 : Int32) m))) := by
  unfold Tk_isIn
  refine (x_iload1 D73_0 rfl).trans ?_
  refine (x_iflt D73_1).trans (i_c ?_ ?_)
  · refine (x_iconst D73_22 (k := 0) (by decide)).trans ?_
    exact (x_bret D73_23 M73.2.2.1).trans yB0
  · refine (x_iload1 D73_4 rfl).trans ?_
    refine (x_aload1 D73_5 rfl).trans ?_
    refine ((x_getI D73_6).trans (gd_t h_a0)).trans ?_
    refine (x_cge D73_9).trans (i_c ?_ ?_)
    · refine (x_iconst D73_22 (k := 0) (by decide)).trans ?_
      exact (x_bret D73_23 M73.2.2.1).trans yB0
    · refine (x_iload1 D73_12 rfl).trans ?_
      refine (x_bipush D73_13 (k := 31) (by decide)).trans ?_
      refine (x_cge D73_15).trans (i_c ?_ ?_)
      · refine (x_iconst D73_22 (k := 0) (by decide)).trans ?_
        exact (x_bret D73_23 M73.2.2.1).trans yB0
      · refine (x_iconst D73_18 (k := 1) (by decide)).trans ?_
        refine (x_goto D73_19).trans ?_
        exact (x_bret D73_23 M73.2.2.1).trans yB1
theorem D75_0 : decode (mB 75) 0 = .ok (.aload_n 0, 1) := by decide +kernel
theorem D75_1 : decode (mB 75) 1 = .ok (.aload_n 0, 1) := by decide +kernel
theorem D75_2 : GF 75 2 7 5 0 := ⟨28, false, by decide +kernel, by decide +kernel⟩
theorem D75_5 : decode (mB 75) 5 = .ok (.iconst 1, 1) := by decide +kernel
theorem D75_6 : decode (mB 75) 6 = .ok (.iadd, 1) := by decide +kernel
theorem D75_7 : decode (mB 75) 7 = .ok (.bipush 31, 2) := by decide +kernel
theorem D75_9 : MA 75 9 1 := ⟨40, by decide +kernel, by decide +kernel, by decide +kernel⟩
theorem D75_12 : PF 75 12 7 5 0 := ⟨28, false, by decide +kernel, by decide +kernel, by decide +kernel, by decide⟩
theorem D75_15 : decode (mB 75) 15 = .ok (.aload_n 0, 1) := by decide +kernel
theorem D75_16 : decode (mB 75) 16 = .ok (.aload_n 0, 1) := by decide +kernel
theorem D75_17 : GF 75 17 7 5 0 := ⟨28, false, by decide +kernel, by decide +kernel⟩
theorem D75_20 : decode (mB 75) 20 = .ok (.iconst 1, 1) := by decide +kernel
theorem D75_21 : decode (mB 75) 21 = .ok (.isub, 1) := by decide +kernel
theorem D75_22 : decode (mB 75) 22 = .ok (.iload_n 1, 1) := by decide +kernel
theorem D75_23 : decode (mB 75) 23 = .ok (.iload_n 2, 1) := by decide +kernel
theorem D75_24 : decode (mB 75) 24 = .ok (.lload_n 3, 1) := by decide +kernel
theorem D75_25 : decode (mB 75) 25 = .ok (.lload 5, 2) := by decide +kernel
theorem D75_27 : decode (mB 75) 27 = .ok (.lload 7, 2) := by decide +kernel
theorem D75_29 : CS 75 29 76 0 := ⟨.invokevirtual 46, by decide +kernel, by decide +kernel, by decide +kernel, by decide⟩
theorem D75_32 : decode (mB 75) 32 = .ok (.return_, 1) := by decide +kernel
theorem Tk_add_e (d : Nat) (a0 : Nat) (x1 : Int32) (x2 : Int32) (y3 : Int64) (y5 : Int64) (y7 : Int64) (m : eM) (h_a0 : kd a0 = 7) : Tk_add (d + 1) a0 x1 x2 y3 y5 y7 m = mI m a0 5 (iMin ((gI m a0 5) + (1 : Int32)) (31 : Int32)) fun m1 => bV (Tk_set d a0 ((gI m1 a0 5) - (1 : Int32)) x1 x2 y3 y5 y7 m1) fun m2 => yV m2 := by
  unfold Tk_add
  refine (x_aload1 D75_0 rfl).trans ?_
  refine (x_aload1 D75_1 rfl).trans ?_
  refine ((x_getI D75_2).trans (gd_t h_a0)).trans ?_
  refine (x_iconst D75_5 (k := 1) (by decide)).trans ?_
  refine (x_iadd D75_6).trans ?_
  refine (x_bipush D75_7 (k := 31) (by decide)).trans ?_
  refine (x_min D75_9 rfl).trans ?_
  refine (x_putI D75_12 h_a0).trans ?_
  refine mI_i (fun m1 => X (d + 1) 75 15 [.ref a0, .int x1, .int x2, .long y3, eU, .long y5, eU, .long y7, eU] [] m1) _ ?_
  intro m1
  refine (x_aload1 D75_15 rfl).trans ?_
  refine (x_aload1 D75_16 rfl).trans ?_
  refine ((x_getI D75_17).trans (gd_t h_a0)).trans ?_
  refine (x_iconst D75_20 (k := 1) (by decide)).trans ?_
  refine (x_isub D75_21).trans ?_
  refine (x_iload1 D75_22 rfl).trans ?_
  refine (x_iload1 D75_23 rfl).trans ?_
  refine (x_lload1 D75_24 rfl).trans ?_
  refine (x_lload2 D75_25 rfl).trans ?_
  refine (x_lload2 D75_27 rfl).trans ?_
  refine (x_cV D75_29 M76  (I76 _ _ _ _ _ _ _) rfl rfl (ok_i M76 (I76 _ _ _ _ _ _ _) rfl rfl h_a0)).trans (bV_c fun m2 => ?_)
  exact x_vret D75_32 M75.2.2.1
theorem D76_0 : decode (mB 76) 0 = .ok (.aload_n 0, 1) := by decide +kernel
theorem D76_1 : decode (mB 76) 1 = .ok (.iload_n 1, 1) := by decide +kernel
theorem D76_2 : CS 76 2 73 0 := ⟨.invokevirtual 32, by decide +kernel, by decide +kernel, by decide +kernel, by decide⟩
theorem D76_5 : BR 76 5 (.ifCond .eq 86) (86) 91 := ⟨by decide +kernel, by decide, by decide⟩
theorem D76_91 : decode (mB 76) 91 = .ok (.return_, 1) := by decide +kernel
theorem D76_8 : decode (mB 76) 8 = .ok (.iload_n 1, 1) := by decide +kernel
theorem D76_9 : decode (mB 76) 9 = .ok (.aload_n 0, 1) := by decide +kernel
theorem D76_10 : GF 76 10 7 0 2 := ⟨11, true, by decide +kernel, by decide +kernel⟩
theorem D76_13 : decode (mB 76) 13 = .ok (.arraylength, 1) := by decide +kernel
theorem D76_14 : BR 76 14 (.if_icmp .ge 77) (77) 91 := ⟨by decide +kernel, by decide, by decide⟩
theorem D76_17 : decode (mB 76) 17 = .ok (.iload_n 1, 1) := by decide +kernel
theorem D76_18 : decode (mB 76) 18 = .ok (.aload_n 0, 1) := by decide +kernel
theorem D76_19 : GF 76 19 7 1 2 := ⟨15, true, by decide +kernel, by decide +kernel⟩
theorem D76_22 : decode (mB 76) 22 = .ok (.arraylength, 1) := by decide +kernel
theorem D76_23 : BR 76 23 (.if_icmp .ge 68) (68) 91 := ⟨by decide +kernel, by decide, by decide⟩
theorem D76_26 : decode (mB 76) 26 = .ok (.iload_n 1, 1) := by decide +kernel
theorem D76_27 : decode (mB 76) 27 = .ok (.aload_n 0, 1) := by decide +kernel
theorem D76_28 : GF 76 28 7 2 2 := ⟨18, true, by decide +kernel, by decide +kernel⟩
theorem D76_31 : decode (mB 76) 31 = .ok (.arraylength, 1) := by decide +kernel
theorem D76_32 : BR 76 32 (.if_icmp .ge 59) (59) 91 := ⟨by decide +kernel, by decide, by decide⟩
theorem D76_35 : decode (mB 76) 35 = .ok (.iload_n 1, 1) := by decide +kernel
theorem D76_36 : decode (mB 76) 36 = .ok (.aload_n 0, 1) := by decide +kernel
theorem D76_37 : GF 76 37 7 3 2 := ⟨22, true, by decide +kernel, by decide +kernel⟩
theorem D76_40 : decode (mB 76) 40 = .ok (.arraylength, 1) := by decide +kernel
theorem D76_41 : BR 76 41 (.if_icmp .ge 50) (50) 91 := ⟨by decide +kernel, by decide, by decide⟩
theorem D76_44 : decode (mB 76) 44 = .ok (.iload_n 1, 1) := by decide +kernel
theorem D76_45 : decode (mB 76) 45 = .ok (.aload_n 0, 1) := by decide +kernel
theorem D76_46 : GF 76 46 7 4 2 := ⟨25, true, by decide +kernel, by decide +kernel⟩
theorem D76_49 : decode (mB 76) 49 = .ok (.arraylength, 1) := by decide +kernel
theorem D76_50 : BR 76 50 (.if_icmp .ge 41) (41) 91 := ⟨by decide +kernel, by decide, by decide⟩
theorem D76_53 : decode (mB 76) 53 = .ok (.aload_n 0, 1) := by decide +kernel
theorem D76_54 : GF 76 54 7 0 2 := ⟨11, true, by decide +kernel, by decide +kernel⟩
theorem D76_57 : decode (mB 76) 57 = .ok (.iload_n 1, 1) := by decide +kernel
theorem D76_58 : decode (mB 76) 58 = .ok (.iload_n 2, 1) := by decide +kernel
theorem D76_59 : decode (mB 76) 59 = .ok (.iastore, 1) := by decide +kernel
theorem D76_60 : decode (mB 76) 60 = .ok (.aload_n 0, 1) := by decide +kernel
theorem D76_61 : GF 76 61 7 1 2 := ⟨15, true, by decide +kernel, by decide +kernel⟩
theorem D76_64 : decode (mB 76) 64 = .ok (.iload_n 1, 1) := by decide +kernel
theorem D76_65 : decode (mB 76) 65 = .ok (.iload_n 3, 1) := by decide +kernel
theorem D76_66 : decode (mB 76) 66 = .ok (.iastore, 1) := by decide +kernel
theorem D76_67 : decode (mB 76) 67 = .ok (.aload_n 0, 1) := by decide +kernel
theorem D76_68 : GF 76 68 7 2 2 := ⟨18, true, by decide +kernel, by decide +kernel⟩
theorem D76_71 : decode (mB 76) 71 = .ok (.iload_n 1, 1) := by decide +kernel
theorem D76_72 : decode (mB 76) 72 = .ok (.lload 4, 2) := by decide +kernel
theorem D76_74 : decode (mB 76) 74 = .ok (.lastore, 1) := by decide +kernel
theorem D76_75 : decode (mB 76) 75 = .ok (.aload_n 0, 1) := by decide +kernel
theorem D76_76 : GF 76 76 7 3 2 := ⟨22, true, by decide +kernel, by decide +kernel⟩
theorem D76_79 : decode (mB 76) 79 = .ok (.iload_n 1, 1) := by decide +kernel
theorem D76_80 : decode (mB 76) 80 = .ok (.lload 6, 2) := by decide +kernel
theorem D76_82 : decode (mB 76) 82 = .ok (.lastore, 1) := by decide +kernel
theorem D76_83 : decode (mB 76) 83 = .ok (.aload_n 0, 1) := by decide +kernel
theorem D76_84 : GF 76 84 7 4 2 := ⟨25, true, by decide +kernel, by decide +kernel⟩
theorem D76_87 : decode (mB 76) 87 = .ok (.iload_n 1, 1) := by decide +kernel
theorem D76_88 : decode (mB 76) 88 = .ok (.lload 8, 2) := by decide +kernel
theorem D76_90 : decode (mB 76) 90 = .ok (.lastore, 1) := by decide +kernel
theorem Tk_set_e (d : Nat) (a0 : Nat) (x1 : Int32) (x2 : Int32) (x3 : Int32) (y4 : Int64) (y6 : Int64) (y8 : Int64) (m : eM) (h_a0 : kd a0 = 7) : Tk_set (d + 1) a0 x1 x2 x3 y4 y6 y8 m = bI (Tk_isIn d a0 x1 m) fun v2 m1 => if v2 = 0 then (yV m1) else (bR (gR m1 a0 0) fun r3 => gl r3 (if ((aln m1 r3).toInt32) ≤ x1 then (yV m1) else (bR (gR m1 a0 1) fun r4 => gl r4 (if ((aln m1 r4).toInt32) ≤ x1 then (yV m1) else (bR (gR m1 a0 2) fun r5 => gl r5 (if ((aln m1 r5).toInt32) ≤ x1 then (yV m1) else (bR (gR m1 a0 3) fun r6 => gl r6 (if ((aln m1 r6).toInt32) ≤ x1 then (yV m1) else (bR (gR m1 a0 4) fun r7 => gl r7 (if ((aln m1 r7).toInt32) ≤ x1 then (yV m1) else (bR (gR m1 a0 0) fun r8 => gw m1 r8 20 x1 (mI m1 r8 x1.toNatClampNeg x2 fun m9 => bR (gR m9 a0 1) fun r10 => gw m9 r10 20 x1 (mI m9 r10 x1.toNatClampNeg x3 fun m11 => bR (gR m11 a0 2) fun r12 => gw m11 r12 21 x1 (mJ m11 r12 x1.toNatClampNeg y4 fun m13 => bR (gR m13 a0 3) fun r14 => gw m13 r14 21 x1 (mJ m13 r14 x1.toNatClampNeg y6 fun m15 => bR (gR m15 a0 4) fun r16 => gw m15 r16 21 x1 (mJ m15 r16 x1.toNatClampNeg y8 fun m17 => yV m17)))))))))))))))) := by
  unfold Tk_set
  refine (x_aload1 D76_0 rfl).trans ?_
  refine (x_iload1 D76_1 rfl).trans ?_
  refine (x_cI D76_2 M73 (fun z => by cases z) (I73 _ _) rfl rfl (ok_i M73 (I73 _ _) rfl rfl h_a0)).trans (bI_c fun v2 m1 => ?_)
  refine (x_ifeq D76_5).trans (i_c ?_ ?_)
  · exact x_vret D76_91 M76.2.2.1
  · refine (x_iload1 D76_8 rfl).trans ?_
    refine (x_aload1 D76_9 rfl).trans ?_
    refine ((x_getR D76_10).trans (gd_t h_a0)).trans (bR_c fun r3 => ?_)
    refine (x_alen D76_13).trans (gl_c ?_)
    refine (x_cge D76_14).trans (i_c ?_ ?_)
    · exact x_vret D76_91 M76.2.2.1
    · refine (x_iload1 D76_17 rfl).trans ?_
      refine (x_aload1 D76_18 rfl).trans ?_
      refine ((x_getR D76_19).trans (gd_t h_a0)).trans (bR_c fun r4 => ?_)
      refine (x_alen D76_22).trans (gl_c ?_)
      refine (x_cge D76_23).trans (i_c ?_ ?_)
      · exact x_vret D76_91 M76.2.2.1
      · refine (x_iload1 D76_26 rfl).trans ?_
        refine (x_aload1 D76_27 rfl).trans ?_
        refine ((x_getR D76_28).trans (gd_t h_a0)).trans (bR_c fun r5 => ?_)
        refine (x_alen D76_31).trans (gl_c ?_)
        refine (x_cge D76_32).trans (i_c ?_ ?_)
        · exact x_vret D76_91 M76.2.2.1
        · refine (x_iload1 D76_35 rfl).trans ?_
          refine (x_aload1 D76_36 rfl).trans ?_
          refine ((x_getR D76_37).trans (gd_t h_a0)).trans (bR_c fun r6 => ?_)
          refine (x_alen D76_40).trans (gl_c ?_)
          refine (x_cge D76_41).trans (i_c ?_ ?_)
          · exact x_vret D76_91 M76.2.2.1
          · refine (x_iload1 D76_44 rfl).trans ?_
            refine (x_aload1 D76_45 rfl).trans ?_
            refine ((x_getR D76_46).trans (gd_t h_a0)).trans (bR_c fun r7 => ?_)
            refine (x_alen D76_49).trans (gl_c ?_)
            refine (x_cge D76_50).trans (i_c ?_ ?_)
            · exact x_vret D76_91 M76.2.2.1
            · refine (x_aload1 D76_53 rfl).trans ?_
              refine ((x_getR D76_54).trans (gd_t h_a0)).trans (bR_c fun r8 => ?_)
              refine (x_iload1 D76_57 rfl).trans ?_
              refine (x_iload1 D76_58 rfl).trans ?_
              refine (x_iastore D76_59).trans (gw_c ?_)
              refine mI_i (fun m9 => X (d + 1) 76 60 [.ref a0, .int x1, .int x2, .int x3, .long y4, eU, .long y6, eU, .long y8, eU] [] m9) _ ?_
              intro m9
              refine (x_aload1 D76_60 rfl).trans ?_
              refine ((x_getR D76_61).trans (gd_t h_a0)).trans (bR_c fun r10 => ?_)
              refine (x_iload1 D76_64 rfl).trans ?_
              refine (x_iload1 D76_65 rfl).trans ?_
              refine (x_iastore D76_66).trans (gw_c ?_)
              refine mI_i (fun m11 => X (d + 1) 76 67 [.ref a0, .int x1, .int x2, .int x3, .long y4, eU, .long y6, eU, .long y8, eU] [] m11) _ ?_
              intro m11
              refine (x_aload1 D76_67 rfl).trans ?_
              refine ((x_getR D76_68).trans (gd_t h_a0)).trans (bR_c fun r12 => ?_)
              refine (x_iload1 D76_71 rfl).trans ?_
              refine (x_lload2 D76_72 rfl).trans ?_
              refine (x_lastore D76_74).trans (gw_c ?_)
              refine mJ_i (fun m13 => X (d + 1) 76 75 [.ref a0, .int x1, .int x2, .int x3, .long y4, eU, .long y6, eU, .long y8, eU] [] m13) _ ?_
              intro m13
              refine (x_aload1 D76_75 rfl).trans ?_
              refine ((x_getR D76_76).trans (gd_t h_a0)).trans (bR_c fun r14 => ?_)
              refine (x_iload1 D76_79 rfl).trans ?_
              refine (x_lload2 D76_80 rfl).trans ?_
              refine (x_lastore D76_82).trans (gw_c ?_)
              refine mJ_i (fun m15 => X (d + 1) 76 83 [.ref a0, .int x1, .int x2, .int x3, .long y4, eU, .long y6, eU, .long y8, eU] [] m15) _ ?_
              intro m15
              refine (x_aload1 D76_83 rfl).trans ?_
              refine ((x_getR D76_84).trans (gd_t h_a0)).trans (bR_c fun r16 => ?_)
              refine (x_iload1 D76_87 rfl).trans ?_
              refine (x_lload2 D76_88 rfl).trans ?_
              refine (x_lastore D76_90).trans (gw_c ?_)
              refine mJ_i (fun m17 => X (d + 1) 76 91 [.ref a0, .int x1, .int x2, .int x3, .long y4, eU, .long y6, eU, .long y8, eU] [] m17) _ ?_
              intro m17
              exact x_vret D76_91 M76.2.2.1
theorem D91_0 : decode (mB 91) 0 = .ok (.aload_n 0, 1) := by decide +kernel
theorem D91_1 : GF 91 1 3 4 0 := ⟨24, false, by decide +kernel, by decide +kernel⟩
theorem D91_4 : decode (mB 91) 4 = .ok (.ireturn, 1) := by decide +kernel
theorem Lo_size_e (d : Nat) (a0 : Nat) (m : eM) (h_a0 : kd a0 = 3) : Lo_size d a0 m = yI (gI m a0 4) m := by
  unfold Lo_size
  refine (x_aload1 D91_0 rfl).trans ?_
  refine ((x_getI D91_1).trans (gd_t h_a0)).trans ?_
  exact x_iret D91_4 M91.2.2.1
theorem D92_0 : decode (mB 92) 0 = .ok (.aload_n 0, 1) := by decide +kernel
theorem D92_1 : GF 92 1 3 4 0 := ⟨24, false, by decide +kernel, by decide +kernel⟩
theorem D92_4 : decode (mB 92) 4 = .ok (.istore 5, 2) := by decide +kernel
theorem D92_6 : decode (mB 92) 6 = .ok (.iload 5, 2) := by decide +kernel
theorem D92_8 : BR 92 8 (.ifCond .lt 43) (43) 51 := ⟨by decide +kernel, by decide, by decide⟩
theorem D92_51 : decode (mB 92) 51 = .ok (.iconst (-1), 1) := by decide +kernel
theorem D92_52 : decode (mB 92) 52 = .ok (.ireturn, 1) := by decide +kernel
theorem D92_11 : decode (mB 92) 11 = .ok (.iload 5, 2) := by decide +kernel
theorem D92_13 : decode (mB 92) 13 = .ok (.aload_n 0, 1) := by decide +kernel
theorem D92_14 : GF 92 14 3 0 2 := ⟨9, true, by decide +kernel, by decide +kernel⟩
theorem D92_17 : decode (mB 92) 17 = .ok (.arraylength, 1) := by decide +kernel
theorem D92_18 : BR 92 18 (.if_icmp .ge 33) (33) 51 := ⟨by decide +kernel, by decide, by decide⟩
theorem D92_21 : decode (mB 92) 21 = .ok (.iload 5, 2) := by decide +kernel
theorem D92_23 : decode (mB 92) 23 = .ok (.aload_n 0, 1) := by decide +kernel
theorem D92_24 : GF 92 24 3 1 2 := ⟨15, true, by decide +kernel, by decide +kernel⟩
theorem D92_27 : decode (mB 92) 27 = .ok (.arraylength, 1) := by decide +kernel
theorem D92_28 : BR 92 28 (.if_icmp .ge 23) (23) 51 := ⟨by decide +kernel, by decide, by decide⟩
theorem D92_31 : decode (mB 92) 31 = .ok (.iload 5, 2) := by decide +kernel
theorem D92_33 : decode (mB 92) 33 = .ok (.aload_n 0, 1) := by decide +kernel
theorem D92_34 : GF 92 34 3 2 2 := ⟨18, true, by decide +kernel, by decide +kernel⟩
theorem D92_37 : decode (mB 92) 37 = .ok (.arraylength, 1) := by decide +kernel
theorem D92_38 : BR 92 38 (.if_icmp .ge 13) (13) 51 := ⟨by decide +kernel, by decide, by decide⟩
theorem D92_41 : decode (mB 92) 41 = .ok (.iload 5, 2) := by decide +kernel
theorem D92_43 : decode (mB 92) 43 = .ok (.aload_n 0, 1) := by decide +kernel
theorem D92_44 : GF 92 44 3 3 2 := ⟨21, true, by decide +kernel, by decide +kernel⟩
theorem D92_47 : decode (mB 92) 47 = .ok (.arraylength, 1) := by decide +kernel
theorem D92_48 : BR 92 48 (.if_icmp .lt 5) (5) 53 := ⟨by decide +kernel, by decide, by decide⟩
theorem D92_53 : decode (mB 92) 53 = .ok (.aload_n 0, 1) := by decide +kernel
theorem D92_54 : GF 92 54 3 0 2 := ⟨9, true, by decide +kernel, by decide +kernel⟩
theorem D92_57 : decode (mB 92) 57 = .ok (.iload 5, 2) := by decide +kernel
theorem D92_59 : decode (mB 92) 59 = .ok (.iload_n 1, 1) := by decide +kernel
theorem D92_60 : decode (mB 92) 60 = .ok (.iastore, 1) := by decide +kernel
theorem D92_61 : decode (mB 92) 61 = .ok (.aload_n 0, 1) := by decide +kernel
theorem D92_62 : GF 92 62 3 1 2 := ⟨15, true, by decide +kernel, by decide +kernel⟩
theorem D92_65 : decode (mB 92) 65 = .ok (.iload 5, 2) := by decide +kernel
theorem D92_67 : decode (mB 92) 67 = .ok (.iload_n 2, 1) := by decide +kernel
theorem D92_68 : decode (mB 92) 68 = .ok (.iastore, 1) := by decide +kernel
theorem D92_69 : decode (mB 92) 69 = .ok (.aload_n 0, 1) := by decide +kernel
theorem D92_70 : GF 92 70 3 2 2 := ⟨18, true, by decide +kernel, by decide +kernel⟩
theorem D92_73 : decode (mB 92) 73 = .ok (.iload 5, 2) := by decide +kernel
theorem D92_75 : decode (mB 92) 75 = .ok (.iload_n 3, 1) := by decide +kernel
theorem D92_76 : decode (mB 92) 76 = .ok (.iastore, 1) := by decide +kernel
theorem D92_77 : decode (mB 92) 77 = .ok (.aload_n 0, 1) := by decide +kernel
theorem D92_78 : GF 92 78 3 3 2 := ⟨21, true, by decide +kernel, by decide +kernel⟩
theorem D92_81 : decode (mB 92) 81 = .ok (.iload 5, 2) := by decide +kernel
theorem D92_83 : decode (mB 92) 83 = .ok (.iload 4, 2) := by decide +kernel
theorem D92_85 : decode (mB 92) 85 = .ok (.iastore, 1) := by decide +kernel
theorem D92_86 : decode (mB 92) 86 = .ok (.aload_n 0, 1) := by decide +kernel
theorem D92_87 : decode (mB 92) 87 = .ok (.dup, 1) := by decide +kernel
theorem D92_88 : GF 92 88 3 4 0 := ⟨24, false, by decide +kernel, by decide +kernel⟩
theorem D92_91 : decode (mB 92) 91 = .ok (.iconst 1, 1) := by decide +kernel
theorem D92_92 : decode (mB 92) 92 = .ok (.iadd, 1) := by decide +kernel
theorem D92_93 : PF 92 93 3 4 0 := ⟨24, false, by decide +kernel, by decide +kernel, by decide +kernel, by decide⟩
theorem D92_96 : decode (mB 92) 96 = .ok (.iload 5, 2) := by decide +kernel
theorem D92_98 : decode (mB 92) 98 = .ok (.ireturn, 1) := by decide +kernel
theorem Lo_add_e (d : Nat) (a0 : Nat) (x1 : Int32) (x2 : Int32) (x3 : Int32) (x4 : Int32) (m : eM) (h_a0 : kd a0 = 3) : Lo_add d a0 x1 x2 x3 x4 m = if (gI m a0 4) < 0 then (yI (-1 : Int32) m) else (bR (gR m a0 0) fun r1 => gl r1 (if ((aln m r1).toInt32) ≤ (gI m a0 4) then (yI (-1 : Int32) m) else (bR (gR m a0 1) fun r2 => gl r2 (if ((aln m r2).toInt32) ≤ (gI m a0 4) then (yI (-1 : Int32) m) else (bR (gR m a0 2) fun r3 => gl r3 (if ((aln m r3).toInt32) ≤ (gI m a0 4) then (yI (-1 : Int32) m) else (bR (gR m a0 3) fun r4 => gl r4 (if (gI m a0 4) < ((aln m r4).toInt32) then (bR (gR m a0 0) fun r5 => gw m r5 20 (gI m a0 4) (mI m r5 (gI m a0 4).toNatClampNeg x1 fun m6 => bR (gR m6 a0 1) fun r7 => gw m6 r7 20 (gI m a0 4) (mI m6 r7 (gI m a0 4).toNatClampNeg x2 fun m8 => bR (gR m8 a0 2) fun r9 => gw m8 r9 20 (gI m a0 4) (mI m8 r9 (gI m a0 4).toNatClampNeg x3 fun m10 => bR (gR m10 a0 3) fun r11 => gw m10 r11 20 (gI m a0 4) (mI m10 r11 (gI m a0 4).toNatClampNeg x4 fun m12 => mI m12 a0 4 ((gI m12 a0 4) + (1 : Int32)) fun m13 => yI (gI m a0 4) m13))))) else (yI (-1 : Int32) m))))))))) := by
  unfold Lo_add
  refine (x_aload1 D92_0 rfl).trans ?_
  refine ((x_getI D92_1).trans (gd_t h_a0)).trans ?_
  refine (x_istore2 D92_4 (ls' := [.ref a0, .int x1, .int x2, .int x3, .int x4, .int (gI m a0 4)]) rfl rfl).trans ?_
  refine (x_iload2 D92_6 rfl).trans ?_
  refine (x_iflt D92_8).trans (i_c ?_ ?_)
  · refine (x_iconst D92_51 (k := -1) (by decide)).trans ?_
    exact x_iret D92_52 M92.2.2.1
  · refine (x_iload2 D92_11 rfl).trans ?_
    refine (x_aload1 D92_13 rfl).trans ?_
    refine ((x_getR D92_14).trans (gd_t h_a0)).trans (bR_c fun r1 => ?_)
    refine (x_alen D92_17).trans (gl_c ?_)
    refine (x_cge D92_18).trans (i_c ?_ ?_)
    · refine (x_iconst D92_51 (k := -1) (by decide)).trans ?_
      exact x_iret D92_52 M92.2.2.1
    · refine (x_iload2 D92_21 rfl).trans ?_
      refine (x_aload1 D92_23 rfl).trans ?_
      refine ((x_getR D92_24).trans (gd_t h_a0)).trans (bR_c fun r2 => ?_)
      refine (x_alen D92_27).trans (gl_c ?_)
      refine (x_cge D92_28).trans (i_c ?_ ?_)
      · refine (x_iconst D92_51 (k := -1) (by decide)).trans ?_
        exact x_iret D92_52 M92.2.2.1
      · refine (x_iload2 D92_31 rfl).trans ?_
        refine (x_aload1 D92_33 rfl).trans ?_
        refine ((x_getR D92_34).trans (gd_t h_a0)).trans (bR_c fun r3 => ?_)
        refine (x_alen D92_37).trans (gl_c ?_)
        refine (x_cge D92_38).trans (i_c ?_ ?_)
        · refine (x_iconst D92_51 (k := -1) (by decide)).trans ?_
          exact x_iret D92_52 M92.2.2.1
        · refine (x_iload2 D92_41 rfl).trans ?_
          refine (x_aload1 D92_43 rfl).trans ?_
          refine ((x_getR D92_44).trans (gd_t h_a0)).trans (bR_c fun r4 => ?_)
          refine (x_alen D92_47).trans (gl_c ?_)
          refine (x_clt D92_48).trans (i_c ?_ ?_)
          · refine (x_aload1 D92_53 rfl).trans ?_
            refine ((x_getR D92_54).trans (gd_t h_a0)).trans (bR_c fun r5 => ?_)
            refine (x_iload2 D92_57 rfl).trans ?_
            refine (x_iload1 D92_59 rfl).trans ?_
            refine (x_iastore D92_60).trans (gw_c ?_)
            refine mI_i (fun m6 => X d 92 61 [.ref a0, .int x1, .int x2, .int x3, .int x4, .int (gI m a0 4)] [] m6) _ ?_
            intro m6
            refine (x_aload1 D92_61 rfl).trans ?_
            refine ((x_getR D92_62).trans (gd_t h_a0)).trans (bR_c fun r7 => ?_)
            refine (x_iload2 D92_65 rfl).trans ?_
            refine (x_iload1 D92_67 rfl).trans ?_
            refine (x_iastore D92_68).trans (gw_c ?_)
            refine mI_i (fun m8 => X d 92 69 [.ref a0, .int x1, .int x2, .int x3, .int x4, .int (gI m a0 4)] [] m8) _ ?_
            intro m8
            refine (x_aload1 D92_69 rfl).trans ?_
            refine ((x_getR D92_70).trans (gd_t h_a0)).trans (bR_c fun r9 => ?_)
            refine (x_iload2 D92_73 rfl).trans ?_
            refine (x_iload1 D92_75 rfl).trans ?_
            refine (x_iastore D92_76).trans (gw_c ?_)
            refine mI_i (fun m10 => X d 92 77 [.ref a0, .int x1, .int x2, .int x3, .int x4, .int (gI m a0 4)] [] m10) _ ?_
            intro m10
            refine (x_aload1 D92_77 rfl).trans ?_
            refine ((x_getR D92_78).trans (gd_t h_a0)).trans (bR_c fun r11 => ?_)
            refine (x_iload2 D92_81 rfl).trans ?_
            refine (x_iload2 D92_83 rfl).trans ?_
            refine (x_iastore D92_85).trans (gw_c ?_)
            refine mI_i (fun m12 => X d 92 86 [.ref a0, .int x1, .int x2, .int x3, .int x4, .int (gI m a0 4)] [] m12) _ ?_
            intro m12
            refine (x_aload1 D92_86 rfl).trans ?_
            refine (x_dup1 D92_87 rfl).trans ?_
            refine ((x_getI D92_88).trans (gd_t h_a0)).trans ?_
            refine (x_iconst D92_91 (k := 1) (by decide)).trans ?_
            refine (x_iadd D92_92).trans ?_
            refine (x_putI D92_93 h_a0).trans ?_
            refine mI_i (fun m13 => X d 92 96 [.ref a0, .int x1, .int x2, .int x3, .int x4, .int (gI m a0 4)] [] m13) _ ?_
            intro m13
            refine (x_iload2 D92_96 rfl).trans ?_
            exact x_iret D92_98 M92.2.2.1
          · refine (x_iconst D92_51 (k := -1) (by decide)).trans ?_
            exact x_iret D92_52 M92.2.2.1
theorem D99_0 : decode (mB 99) 0 = .ok (.aload_n 0, 1) := by decide +kernel
theorem D99_1 : decode (mB 99) 1 = .ok (.aload_n 0, 1) := by decide +kernel
theorem D99_2 : GF 99 2 3 0 2 := ⟨9, true, by decide +kernel, by decide +kernel⟩
theorem D99_5 : decode (mB 99) 5 = .ok (.iload_n 1, 1) := by decide +kernel
theorem D99_6 : CS 99 6 100 0 := ⟨.invokevirtual 28, by decide +kernel, by decide +kernel, by decide +kernel, by decide⟩
theorem D99_9 : BR 99 9 (.ifCond .eq 12) (12) 21 := ⟨by decide +kernel, by decide, by decide⟩
theorem D99_21 : decode (mB 99) 21 = .ok (.iconst 0, 1) := by decide +kernel
theorem D99_22 : decode (mB 99) 22 = .ok (.ireturn, 1) := by decide +kernel
theorem D99_12 : decode (mB 99) 12 = .ok (.aload_n 0, 1) := by decide +kernel
theorem D99_13 : GF 99 13 3 0 2 := ⟨9, true, by decide +kernel, by decide +kernel⟩
theorem D99_16 : decode (mB 99) 16 = .ok (.iload_n 1, 1) := by decide +kernel
theorem D99_17 : decode (mB 99) 17 = .ok (.iaload, 1) := by decide +kernel
theorem D99_18 : BR 99 18 (.goto 4) (4) 22 := ⟨by decide +kernel, by decide, by decide⟩
theorem Lo_cock_e (d : Nat) (a0 : Nat) (x1 : Int32) (m : eM) (h_a0 : kd a0 = 3) : Lo_cock (d + 1) a0 x1 m = bR (gR m a0 0) fun r1 => bI (Lo_isIn d a0 r1 x1 m) fun v3 m2 => if v3 = 0 then (yI (0 : Int32) m2) else (bR (gR m2 a0 0) fun r4 => ga m2 r4 20 x1 (yI (gI m2 r4 x1.toNatClampNeg) m2)) := by
  unfold Lo_cock
  refine (x_aload1 D99_0 rfl).trans ?_
  refine (x_aload1 D99_1 rfl).trans ?_
  refine ((x_getR D99_2).trans (gd_t h_a0)).trans (bR_c fun r1 => ?_)
  refine (x_iload1 D99_5 rfl).trans ?_
  refine (x_cI D99_6 M100 (fun z => by cases z) (I100 _ _ _) rfl rfl (ok_i M100 (I100 _ _ _) rfl rfl h_a0)).trans (bI_c fun v3 m2 => ?_)
  refine (x_ifeq D99_9).trans (i_c ?_ ?_)
  · refine (x_iconst D99_21 (k := 0) (by decide)).trans ?_
    exact x_iret D99_22 M99.2.2.1
  · refine (x_aload1 D99_12 rfl).trans ?_
    refine ((x_getR D99_13).trans (gd_t h_a0)).trans (bR_c fun r4 => ?_)
    refine (x_iload1 D99_16 rfl).trans ?_
    refine (x_iaload D99_17).trans (ga_c ?_)
    refine (x_goto D99_18).trans ?_
    exact x_iret D99_22 M99.2.2.1
theorem D100_0 : decode (mB 100) 0 = .ok (.iload_n 2, 1) := by decide +kernel
theorem D100_1 : BR 100 1 (.ifCond .lt 21) (21) 22 := ⟨by decide +kernel, by decide, by decide⟩
theorem D100_22 : decode (mB 100) 22 = .ok (.iconst 0, 1) := by decide +kernel
theorem D100_23 : decode (mB 100) 23 = .ok (.ireturn, 1) := by decide +kernel
theorem D100_4 : decode (mB 100) 4 = .ok (.iload_n 2, 1) := by decide +kernel
theorem D100_5 : decode (mB 100) 5 = .ok (.aload_n 0, 1) := by decide +kernel
theorem D100_6 : GF 100 6 3 4 0 := ⟨24, false, by decide +kernel, by decide +kernel⟩
theorem D100_9 : BR 100 9 (.if_icmp .ge 13) (13) 22 := ⟨by decide +kernel, by decide, by decide⟩
theorem D100_12 : decode (mB 100) 12 = .ok (.iload_n 2, 1) := by decide +kernel
theorem D100_13 : decode (mB 100) 13 = .ok (.aload_n 1, 1) := by decide +kernel
theorem D100_14 : decode (mB 100) 14 = .ok (.arraylength, 1) := by decide +kernel
theorem D100_15 : BR 100 15 (.if_icmp .ge 7) (7) 22 := ⟨by decide +kernel, by decide, by decide⟩
theorem D100_18 : decode (mB 100) 18 = .ok (.iconst 1, 1) := by decide +kernel
theorem D100_19 : BR 100 19 (.goto 4) (4) 23 := ⟨by decide +kernel, by decide, by decide⟩
theorem Lo_isIn_e (d : Nat) (a0 : Nat) (a1 : Nat) (x2 : Int32) (m : eM) (h_a0 : kd a0 = 3) : Lo_isIn d a0 a1 x2 m = if x2 < 0 then (yI (0 : Int32) m) else (if (gI m a0 4) ≤ x2 then (yI (0 : Int32) m) else (gl a1 (if ((aln m a1).toInt32) ≤ x2 then (yI (0 : Int32) m) else (yI (1 : Int32) m)))) := by
  unfold Lo_isIn
  refine (x_iload1 D100_0 rfl).trans ?_
  refine (x_iflt D100_1).trans (i_c ?_ ?_)
  · refine (x_iconst D100_22 (k := 0) (by decide)).trans ?_
    exact (x_bret D100_23 M100.2.2.1).trans yB0
  · refine (x_iload1 D100_4 rfl).trans ?_
    refine (x_aload1 D100_5 rfl).trans ?_
    refine ((x_getI D100_6).trans (gd_t h_a0)).trans ?_
    refine (x_cge D100_9).trans (i_c ?_ ?_)
    · refine (x_iconst D100_22 (k := 0) (by decide)).trans ?_
      exact (x_bret D100_23 M100.2.2.1).trans yB0
    · refine (x_iload1 D100_12 rfl).trans ?_
      refine (x_aload1 D100_13 rfl).trans ?_
      refine (x_alen D100_14).trans (gl_c ?_)
      refine (x_cge D100_15).trans (i_c ?_ ?_)
      · refine (x_iconst D100_22 (k := 0) (by decide)).trans ?_
        exact (x_bret D100_23 M100.2.2.1).trans yB0
      · refine (x_iconst D100_18 (k := 1) (by decide)).trans ?_
        refine (x_goto D100_19).trans ?_
        exact (x_bret D100_23 M100.2.2.1).trans yB1
theorem D101_0 : decode (mB 101) 0 = .ok (.aload_n 0, 1) := by decide +kernel
theorem D101_1 : decode (mB 101) 1 = .ok (.aload_n 0, 1) := by decide +kernel
theorem D101_2 : GF 101 2 3 1 2 := ⟨15, true, by decide +kernel, by decide +kernel⟩
theorem D101_5 : decode (mB 101) 5 = .ok (.iload_n 1, 1) := by decide +kernel
theorem D101_6 : CS 101 6 100 0 := ⟨.invokevirtual 28, by decide +kernel, by decide +kernel, by decide +kernel, by decide⟩
theorem D101_9 : BR 101 9 (.ifCond .eq 12) (12) 21 := ⟨by decide +kernel, by decide, by decide⟩
theorem D101_21 : decode (mB 101) 21 = .ok (.iconst 0, 1) := by decide +kernel
theorem D101_22 : decode (mB 101) 22 = .ok (.ireturn, 1) := by decide +kernel
theorem D101_12 : decode (mB 101) 12 = .ok (.aload_n 0, 1) := by decide +kernel
theorem D101_13 : GF 101 13 3 1 2 := ⟨15, true, by decide +kernel, by decide +kernel⟩
theorem D101_16 : decode (mB 101) 16 = .ok (.iload_n 1, 1) := by decide +kernel
theorem D101_17 : decode (mB 101) 17 = .ok (.iaload, 1) := by decide +kernel
theorem D101_18 : BR 101 18 (.goto 4) (4) 22 := ⟨by decide +kernel, by decide, by decide⟩
theorem Lo_minute_e (d : Nat) (a0 : Nat) (x1 : Int32) (m : eM) (h_a0 : kd a0 = 3) : Lo_minute (d + 1) a0 x1 m = bR (gR m a0 1) fun r1 => bI (Lo_isIn d a0 r1 x1 m) fun v3 m2 => if v3 = 0 then (yI (0 : Int32) m2) else (bR (gR m2 a0 1) fun r4 => ga m2 r4 20 x1 (yI (gI m2 r4 x1.toNatClampNeg) m2)) := by
  unfold Lo_minute
  refine (x_aload1 D101_0 rfl).trans ?_
  refine (x_aload1 D101_1 rfl).trans ?_
  refine ((x_getR D101_2).trans (gd_t h_a0)).trans (bR_c fun r1 => ?_)
  refine (x_iload1 D101_5 rfl).trans ?_
  refine (x_cI D101_6 M100 (fun z => by cases z) (I100 _ _ _) rfl rfl (ok_i M100 (I100 _ _ _) rfl rfl h_a0)).trans (bI_c fun v3 m2 => ?_)
  refine (x_ifeq D101_9).trans (i_c ?_ ?_)
  · refine (x_iconst D101_21 (k := 0) (by decide)).trans ?_
    exact x_iret D101_22 M101.2.2.1
  · refine (x_aload1 D101_12 rfl).trans ?_
    refine ((x_getR D101_13).trans (gd_t h_a0)).trans (bR_c fun r4 => ?_)
    refine (x_iload1 D101_16 rfl).trans ?_
    refine (x_iaload D101_17).trans (ga_c ?_)
    refine (x_goto D101_18).trans ?_
    exact x_iret D101_22 M101.2.2.1
theorem D102_0 : decode (mB 102) 0 = .ok (.iconst 0, 1) := by decide +kernel
theorem D102_1 : decode (mB 102) 1 = .ok (.istore 7, 2) := by decide +kernel
theorem D102_3 : decode (mB 102) 3 = .ok (.iload 7, 2) := by decide +kernel
theorem D102_5 : decode (mB 102) 5 = .ok (.aload_n 0, 1) := by decide +kernel
theorem D102_6 : GF 102 6 0 0 2 := ⟨9, true, by decide +kernel, by decide +kernel⟩
theorem D102_9 : decode (mB 102) 9 = .ok (.arraylength, 1) := by decide +kernel
theorem D102_10 : BR 102 10 (.if_icmp .ge 17) (17) 27 := ⟨by decide +kernel, by decide, by decide⟩
theorem D102_27 : decode (mB 102) 27 = .ok (.lload 5, 2) := by decide +kernel
theorem D102_29 : decode (mB 102) 29 = .ok (.lstore 7, 2) := by decide +kernel
theorem D102_31 : decode (mB 102) 31 = .ok (.aload_n 1, 1) := by decide +kernel
theorem D102_32 : CS 102 32 70 0 := ⟨.invokevirtual 18, by decide +kernel, by decide +kernel, by decide +kernel, by decide⟩
theorem D102_35 : decode (mB 102) 35 = .ok (.iconst 1, 1) := by decide +kernel
theorem D102_36 : decode (mB 102) 36 = .ok (.isub, 1) := by decide +kernel
theorem D102_37 : decode (mB 102) 37 = .ok (.istore 9, 2) := by decide +kernel
theorem D102_13 : decode (mB 102) 13 = .ok (.aload_n 0, 1) := by decide +kernel
theorem D102_14 : GF 102 14 0 0 2 := ⟨9, true, by decide +kernel, by decide +kernel⟩
theorem D102_17 : decode (mB 102) 17 = .ok (.iload 7, 2) := by decide +kernel
theorem D102_19 : decode (mB 102) 19 = .ok (.lconst 0, 1) := by decide +kernel
theorem D102_20 : decode (mB 102) 20 = .ok (.lastore, 1) := by decide +kernel
theorem D102_21 : decode (mB 102) 21 = .ok (.iinc 7 1, 3) := by decide +kernel
theorem D102_24 : BR 102 24 (.goto (-21)) (-21) 3 := ⟨by decide +kernel, by decide, by decide⟩
theorem D102_39 : decode (mB 102) 39 = .ok (.iload 9, 2) := by decide +kernel
theorem D102_41 : BR 102 41 (.ifCond .lt 91) (91) 132 := ⟨by decide +kernel, by decide, by decide⟩
theorem D102_132 : decode (mB 102) 132 = .ok (.aload_n 0, 1) := by decide +kernel
theorem D102_133 : GF 102 133 0 0 2 := ⟨9, true, by decide +kernel, by decide +kernel⟩
theorem D102_136 : decode (mB 102) 136 = .ok (.bipush 6, 2) := by decide +kernel
theorem D102_138 : decode (mB 102) 138 = .ok (.lload 7, 2) := by decide +kernel
theorem D102_140 : CS 102 140 107 2 := ⟨.invokestatic 43, by decide +kernel, by decide +kernel, by decide +kernel, by decide⟩
theorem D102_143 : decode (mB 102) 143 = .ok (.aload_n 0, 1) := by decide +kernel
theorem D102_144 : decode (mB 102) 144 = .ok (.aload_n 2, 1) := by decide +kernel
theorem D102_145 : CS 102 145 108 0 := ⟨.invokevirtual 49, by decide +kernel, by decide +kernel, by decide +kernel, by decide⟩
theorem D102_148 : decode (mB 102) 148 = .ok (.return_, 1) := by decide +kernel
theorem D102_44 : decode (mB 102) 44 = .ok (.lload 7, 2) := by decide +kernel
theorem D102_46 : decode (mB 102) 46 = .ok (.lconst 0, 1) := by decide +kernel
theorem D102_47 : decode (mB 102) 47 = .ok (.lcmp, 1) := by decide +kernel
theorem D102_48 : BR 102 48 (.ifCond .eq 84) (84) 132 := ⟨by decide +kernel, by decide, by decide⟩
theorem D102_51 : decode (mB 102) 51 = .ok (.aload_n 1, 1) := by decide +kernel
theorem D102_52 : decode (mB 102) 52 = .ok (.iload 9, 2) := by decide +kernel
theorem D102_54 : CS 102 54 72 0 := ⟨.invokevirtual 24, by decide +kernel, by decide +kernel, by decide +kernel, by decide⟩
theorem D102_57 : decode (mB 102) 57 = .ok (.aload_n 2, 1) := by decide +kernel
theorem D102_58 : decode (mB 102) 58 = .ok (.iload_n 3, 1) := by decide +kernel
theorem D102_59 : CS 102 59 103 0 := ⟨.invokevirtual 28, by decide +kernel, by decide +kernel, by decide +kernel, by decide⟩
theorem D102_62 : decode (mB 102) 62 = .ok (.iadd, 1) := by decide +kernel
theorem D102_63 : decode (mB 102) 63 = .ok (.iload 4, 2) := by decide +kernel
theorem D102_65 : BR 102 65 (.if_icmp .gt 7) (7) 72 := ⟨by decide +kernel, by decide, by decide⟩
theorem D102_72 : decode (mB 102) 72 = .ok (.iconst 0, 1) := by decide +kernel
theorem D102_73 : decode (mB 102) 73 = .ok (.istore 10, 2) := by decide +kernel
theorem D102_75 : decode (mB 102) 75 = .ok (.iload 10, 2) := by decide +kernel
theorem D102_77 : BR 102 77 (.ifCond .eq 20) (20) 97 := ⟨by decide +kernel, by decide, by decide⟩
theorem D102_97 : decode (mB 102) 97 = .ok (.lconst 0, 1) := by decide +kernel
theorem D102_68 : decode (mB 102) 68 = .ok (.iconst 1, 1) := by decide +kernel
theorem D102_69 : BR 102 69 (.goto 4) (4) 73 := ⟨by decide +kernel, by decide, by decide⟩
theorem D102_80 : decode (mB 102) 80 = .ok (.lload 7, 2) := by decide +kernel
theorem D102_82 : decode (mB 102) 82 = .ok (.aload_n 1, 1) := by decide +kernel
theorem D102_83 : decode (mB 102) 83 = .ok (.iload 9, 2) := by decide +kernel
theorem D102_85 : decode (mB 102) 85 = .ok (.aload_n 2, 1) := by decide +kernel
theorem D102_86 : decode (mB 102) 86 = .ok (.iload_n 3, 1) := by decide +kernel
theorem D102_87 : CS 102 87 104 0 := ⟨.invokevirtual 33, by decide +kernel, by decide +kernel, by decide +kernel, by decide⟩
theorem D102_90 : CS 102 90 105 0 := ⟨.invokevirtual 36, by decide +kernel, by decide +kernel, by decide +kernel, by decide⟩
theorem D102_93 : decode (mB 102) 93 = .ok (.land, 1) := by decide +kernel
theorem D102_94 : BR 102 94 (.goto 4) (4) 98 := ⟨by decide +kernel, by decide, by decide⟩
theorem D102_98 : decode (mB 102) 98 = .ok (.lstore 11, 2) := by decide +kernel
theorem D102_100 : decode (mB 102) 100 = .ok (.aload_n 0, 1) := by decide +kernel
theorem D102_101 : GF 102 101 0 0 2 := ⟨9, true, by decide +kernel, by decide +kernel⟩
theorem D102_104 : decode (mB 102) 104 = .ok (.aload_n 1, 1) := by decide +kernel
theorem D102_105 : decode (mB 102) 105 = .ok (.iload 9, 2) := by decide +kernel
theorem D102_107 : CS 102 107 106 0 := ⟨.invokevirtual 40, by decide +kernel, by decide +kernel, by decide +kernel, by decide⟩
theorem D102_110 : decode (mB 102) 110 = .ok (.lload 11, 2) := by decide +kernel
theorem D102_112 : CS 102 112 107 2 := ⟨.invokestatic 43, by decide +kernel, by decide +kernel, by decide +kernel, by decide⟩
theorem D102_115 : decode (mB 102) 115 = .ok (.lload 7, 2) := by decide +kernel
theorem D102_117 : decode (mB 102) 117 = .ok (.lload 11, 2) := by decide +kernel
theorem R102_119 : lRes (mC 102) 47 = some (-1) := by decide +kernel
theorem D102_119 : decode (mB 102) 119 = .ok (.ldc2_w 47, 3) := by decide +kernel
theorem D102_122 : decode (mB 102) 122 = .ok (.lxor, 1) := by decide +kernel
theorem D102_123 : decode (mB 102) 123 = .ok (.land, 1) := by decide +kernel
theorem D102_124 : decode (mB 102) 124 = .ok (.lstore 7, 2) := by decide +kernel
theorem D102_126 : decode (mB 102) 126 = .ok (.iinc 9 (-1), 3) := by decide +kernel
theorem D102_129 : BR 102 129 (.goto (-90)) (-90) 39 := ⟨by decide +kernel, by decide, by decide⟩
theorem Ai_take_e (d : Nat) (a0 : Nat) (a1 : Nat) (a2 : Nat) (x3 : Int32) (x4 : Int32) (y5 : Int64) (m : eM) (h_a0 : kd a0 = 0) (h_a1 : kd a1 = 7) (h_a2 : kd a2 = 4) : Ai_take (d + 1) a0 a1 a2 x3 x4 y5 m = Ai_take_3 (d + 1) a0 a1 a2 x3 x4 y5 (0 : Int32) m := by
  unfold Ai_take
  refine (x_iconst D102_0 (k := 0) (by decide)).trans ?_
  refine (x_istore2 D102_1 (ls' := [.ref a0, .ref a1, .ref a2, .int x3, .int x4, .long y5, eU, .int (0 : Int32), eU, eU, eU, eU, eU]) rfl rfl).trans ?_
  rfl
theorem Ai_take_3_e (d : Nat) (a0 : Nat) (a1 : Nat) (a2 : Nat) (x3 : Int32) (x4 : Int32) (y5 : Int64) (x7 : Int32) (m : eM) (h_a0 : kd a0 = 0) (h_a1 : kd a1 = 7) (h_a2 : kd a2 = 4) : Ai_take_3 (d + 1) a0 a1 a2 x3 x4 y5 x7 m = bR (gR m a0 0) fun r1 => gl r1 (if ((aln m r1).toInt32) ≤ x7 then (bI (Tk_size d a1 m) fun v3 m2 => Ai_take_39 (d + 1) a0 a1 a2 x3 x4 y5 y5 (v3 - (1 : Int32)) eU eU m2) else (bR (gR m a0 0) fun r4 => gw m r4 21 x7 (mJ m r4 x7.toNatClampNeg (0 : Int64) fun m5 => Ai_take_3 (d + 1) a0 a1 a2 x3 x4 y5 (x7 + (1 : Int32)) m5))) := by
  unfold Ai_take_3
  refine (x_iload2 D102_3 rfl).trans ?_
  refine (x_aload1 D102_5 rfl).trans ?_
  refine ((x_getR D102_6).trans (gd_t h_a0)).trans (bR_c fun r1 => ?_)
  refine (x_alen D102_9).trans (gl_c ?_)
  refine (x_cge D102_10).trans (i_c ?_ ?_)
  · refine (x_lload2 D102_27 rfl).trans ?_
    refine (x_lstore2 D102_29 (ls' := [.ref a0, .ref a1, .ref a2, .int x3, .int x4, .long y5, eU, .long y5, eU, eU, eU, eU, eU]) rfl rfl).trans ?_
    refine (x_aload1 D102_31 rfl).trans ?_
    refine (x_cI D102_32 M70 (fun z => by cases z) (I70 _) rfl rfl (ok_i M70 (I70 _) rfl rfl h_a1)).trans (bI_c fun v3 m2 => ?_)
    refine (x_iconst D102_35 (k := 1) (by decide)).trans ?_
    refine (x_isub D102_36).trans ?_
    refine (x_istore2 D102_37 (ls' := [.ref a0, .ref a1, .ref a2, .int x3, .int x4, .long y5, eU, .long y5, eU, .int (v3 - (1 : Int32)), eU, eU, eU]) rfl rfl).trans ?_
    rfl
  · refine (x_aload1 D102_13 rfl).trans ?_
    refine ((x_getR D102_14).trans (gd_t h_a0)).trans (bR_c fun r4 => ?_)
    refine (x_iload2 D102_17 rfl).trans ?_
    refine (x_lconst0 D102_19).trans ?_
    refine (x_lastore D102_20).trans (gw_c ?_)
    refine mJ_i (fun m5 => X (d + 1) 102 21 [.ref a0, .ref a1, .ref a2, .int x3, .int x4, .long y5, eU, .int x7, eU, eU, eU, eU, eU] [] m5) _ ?_
    intro m5
    refine (x_iinc D102_21 rfl (k := 1) (by decide) (ls' := [.ref a0, .ref a1, .ref a2, .int x3, .int x4, .long y5, eU, .int (x7 + (1 : Int32)), eU, eU, eU, eU, eU]) rfl).trans ?_
    refine (x_goto D102_24).trans ?_
    rfl
theorem Ai_take_39_e (d : Nat) (a0 : Nat) (a1 : Nat) (a2 : Nat) (x3 : Int32) (x4 : Int32) (y5 : Int64) (y7 : Int64) (x9 : Int32) (w10 : Value) (w11 : Value) (m : eM) (h_a0 : kd a0 = 0) (h_a1 : kd a1 = 7) (h_a2 : kd a2 = 4) : Ai_take_39 (d + 1) a0 a1 a2 x3 x4 y5 y7 x9 w10 w11 m = if x9 < 0 then (bR (gR m a0 0) fun r1 => bV (Ai_add d r1 (6 : Int32) y7 m) fun m2 => bV (Ai_gather d a0 a2 m2) fun m3 => yV m3) else (if (lg_cmp y7 (0 : Int64)) = 0 then (bR (gR m a0 0) fun r4 => bV (Ai_add d r4 (6 : Int32) y7 m) fun m5 => bV (Ai_gather d a0 a2 m5) fun m6 => yV m6) else (bI (Tk_minute d a1 x9 m) fun v8 m7 => bI (Pa_late d a2 x3 m7) fun v10 m9 => if x4 < (v8 + v10) then (Ai_take_98 (d + 1) a0 a1 a2 x3 x4 y5 y7 x9 (0 : Int32) w11 (0 : Int64) m9) else (bI (Pa_law d a2 x3 m9) fun v12 m11 => bL (Tk_lies d a1 x9 v12 m11) fun v14 m13 => Ai_take_98 (d + 1) a0 a1 a2 x3 x4 y5 y7 x9 (1 : Int32) w11 (y7 &&& v14) m13))) := by
  unfold Ai_take_39
  refine (x_iload2 D102_39 rfl).trans ?_
  refine (x_iflt D102_41).trans (i_c ?_ ?_)
  · refine (x_aload1 D102_132 rfl).trans ?_
    refine ((x_getR D102_133).trans (gd_t h_a0)).trans (bR_c fun r1 => ?_)
    refine (x_bipush D102_136 (k := 6) (by decide)).trans ?_
    refine (x_lload2 D102_138 rfl).trans ?_
    refine (x_cV D102_140 M107  (I107 _ _ _) rfl rfl (ok_s M107 (I107 _ _ _) rfl rfl)).trans (bV_c fun m2 => ?_)
    refine (x_aload1 D102_143 rfl).trans ?_
    refine (x_aload1 D102_144 rfl).trans ?_
    refine (x_cV D102_145 M108  (I108 _ _) rfl rfl (ok_i M108 (I108 _ _) rfl rfl h_a0)).trans (bV_c fun m3 => ?_)
    exact x_vret D102_148 M102.2.2.1
  · refine (x_lload2 D102_44 rfl).trans ?_
    refine (x_lconst0 D102_46).trans ?_
    refine (x_lcmp D102_47).trans ?_
    refine (x_ifeq D102_48).trans (i_c ?_ ?_)
    · refine (x_aload1 D102_132 rfl).trans ?_
      refine ((x_getR D102_133).trans (gd_t h_a0)).trans (bR_c fun r4 => ?_)
      refine (x_bipush D102_136 (k := 6) (by decide)).trans ?_
      refine (x_lload2 D102_138 rfl).trans ?_
      refine (x_cV D102_140 M107  (I107 _ _ _) rfl rfl (ok_s M107 (I107 _ _ _) rfl rfl)).trans (bV_c fun m5 => ?_)
      refine (x_aload1 D102_143 rfl).trans ?_
      refine (x_aload1 D102_144 rfl).trans ?_
      refine (x_cV D102_145 M108  (I108 _ _) rfl rfl (ok_i M108 (I108 _ _) rfl rfl h_a0)).trans (bV_c fun m6 => ?_)
      exact x_vret D102_148 M102.2.2.1
    · refine (x_aload1 D102_51 rfl).trans ?_
      refine (x_iload2 D102_52 rfl).trans ?_
      refine (x_cI D102_54 M72 (fun z => by cases z) (I72 _ _) rfl rfl (ok_i M72 (I72 _ _) rfl rfl h_a1)).trans (bI_c fun v8 m7 => ?_)
      refine (x_aload1 D102_57 rfl).trans ?_
      refine (x_iload1 D102_58 rfl).trans ?_
      refine (x_cI D102_59 M103 (fun z => by cases z) (I103 _ _) rfl rfl (ok_i M103 (I103 _ _) rfl rfl h_a2)).trans (bI_c fun v10 m9 => ?_)
      refine (x_iadd D102_62).trans ?_
      refine (x_iload2 D102_63 rfl).trans ?_
      refine (x_cgt D102_65).trans (i_c ?_ ?_)
      · refine (x_iconst D102_72 (k := 0) (by decide)).trans ?_
        refine (x_istore2 D102_73 (ls' := [.ref a0, .ref a1, .ref a2, .int x3, .int x4, .long y5, eU, .long y7, eU, .int x9, .int (0 : Int32), w11, eU]) rfl rfl).trans ?_
        refine (x_iload2 D102_75 rfl).trans ?_
        refine ((x_ifeq D102_77).trans (if_pos (by decide))).trans ?_
        refine (x_lconst0 D102_97).trans ?_
        rfl
      · refine (x_iconst D102_68 (k := 1) (by decide)).trans ?_
        refine (x_goto D102_69).trans ?_
        refine (x_istore2 D102_73 (ls' := [.ref a0, .ref a1, .ref a2, .int x3, .int x4, .long y5, eU, .long y7, eU, .int x9, .int (1 : Int32), w11, eU]) rfl rfl).trans ?_
        refine (x_iload2 D102_75 rfl).trans ?_
        refine ((x_ifeq D102_77).trans (if_neg (by decide))).trans ?_
        refine (x_lload2 D102_80 rfl).trans ?_
        refine (x_aload1 D102_82 rfl).trans ?_
        refine (x_iload2 D102_83 rfl).trans ?_
        refine (x_aload1 D102_85 rfl).trans ?_
        refine (x_iload1 D102_86 rfl).trans ?_
        refine (x_cI D102_87 M104 (fun z => by cases z) (I104 _ _) rfl rfl (ok_i M104 (I104 _ _) rfl rfl h_a2)).trans (bI_c fun v12 m11 => ?_)
        refine (x_cL D102_90 M105  (I105 _ _ _) rfl rfl (ok_i M105 (I105 _ _ _) rfl rfl h_a1)).trans (bL_c fun v14 m13 => ?_)
        refine (x_land D102_93).trans ?_
        refine (x_goto D102_94).trans ?_
        rfl
theorem Ai_take_98_e (d : Nat) (a0 : Nat) (a1 : Nat) (a2 : Nat) (x3 : Int32) (x4 : Int32) (y5 : Int64) (y7 : Int64) (x9 : Int32) (x10 : Int32) (w11 : Value) (q0 : Int64) (m : eM) (h_a0 : kd a0 = 0) (h_a1 : kd a1 = 7) (h_a2 : kd a2 = 4) : Ai_take_98 (d + 1) a0 a1 a2 x3 x4 y5 y7 x9 x10 w11 q0 m = bR (gR m a0 0) fun r1 => bI (Tk_speaker d a1 x9 m) fun v3 m2 => bV (Ai_add d r1 v3 q0 m2) fun m4 => Ai_take_39 (d + 1) a0 a1 a2 x3 x4 y5 (y7 &&& (q0 ^^^ (-1 : Int64))) (x9 + (-1 : Int32)) (.int x10) (.long q0) m4 := by
  unfold Ai_take_98
  refine (x_lstore2 D102_98 (ls' := [.ref a0, .ref a1, .ref a2, .int x3, .int x4, .long y5, eU, .long y7, eU, .int x9, .int x10, .long q0, eU]) rfl rfl).trans ?_
  refine (x_aload1 D102_100 rfl).trans ?_
  refine ((x_getR D102_101).trans (gd_t h_a0)).trans (bR_c fun r1 => ?_)
  refine (x_aload1 D102_104 rfl).trans ?_
  refine (x_iload2 D102_105 rfl).trans ?_
  refine (x_cI D102_107 M106 (fun z => by cases z) (I106 _ _) rfl rfl (ok_i M106 (I106 _ _) rfl rfl h_a1)).trans (bI_c fun v3 m2 => ?_)
  refine (x_lload2 D102_110 rfl).trans ?_
  refine (x_cV D102_112 M107  (I107 _ _ _) rfl rfl (ok_s M107 (I107 _ _ _) rfl rfl)).trans (bV_c fun m4 => ?_)
  refine (x_lload2 D102_115 rfl).trans ?_
  refine (x_lload2 D102_117 rfl).trans ?_
  refine (x_ldc2 D102_119 R102_119).trans ?_
  refine (x_lxor D102_122).trans ?_
  refine (x_land D102_123).trans ?_
  refine (x_lstore2 D102_124 (ls' := [.ref a0, .ref a1, .ref a2, .int x3, .int x4, .long y5, eU, .long (y7 &&& (q0 ^^^ (-1 : Int64))), eU, .int x9, .int x10, .long q0, eU]) rfl rfl).trans ?_
  refine (x_iinc D102_126 rfl (k := -1) (by decide) (ls' := [.ref a0, .ref a1, .ref a2, .int x3, .int x4, .long y5, eU, .long (y7 &&& (q0 ^^^ (-1 : Int64))), eU, .int (x9 + (-1 : Int32)), .int x10, .long q0, eU]) rfl).trans ?_
  refine (x_goto D102_129).trans ?_
  rfl
theorem D105_0 : decode (mB 105) 0 = .ok (.aload_n 0, 1) := by decide +kernel
theorem D105_1 : decode (mB 105) 1 = .ok (.iload_n 1, 1) := by decide +kernel
theorem D105_2 : CS 105 2 73 0 := ⟨.invokevirtual 32, by decide +kernel, by decide +kernel, by decide +kernel, by decide⟩
theorem D105_5 : BR 105 5 (.ifCond .eq 21) (21) 26 := ⟨by decide +kernel, by decide, by decide⟩
theorem D105_26 : decode (mB 105) 26 = .ok (.lconst 0, 1) := by decide +kernel
theorem D105_27 : decode (mB 105) 27 = .ok (.lreturn, 1) := by decide +kernel
theorem D105_8 : decode (mB 105) 8 = .ok (.iload_n 1, 1) := by decide +kernel
theorem D105_9 : decode (mB 105) 9 = .ok (.aload_n 0, 1) := by decide +kernel
theorem D105_10 : GF 105 10 7 3 2 := ⟨22, true, by decide +kernel, by decide +kernel⟩
theorem D105_13 : decode (mB 105) 13 = .ok (.arraylength, 1) := by decide +kernel
theorem D105_14 : BR 105 14 (.if_icmp .ge 12) (12) 26 := ⟨by decide +kernel, by decide, by decide⟩
theorem D105_17 : decode (mB 105) 17 = .ok (.iload_n 1, 1) := by decide +kernel
theorem D105_18 : decode (mB 105) 18 = .ok (.aload_n 0, 1) := by decide +kernel
theorem D105_19 : GF 105 19 7 4 2 := ⟨25, true, by decide +kernel, by decide +kernel⟩
theorem D105_22 : decode (mB 105) 22 = .ok (.arraylength, 1) := by decide +kernel
theorem D105_23 : BR 105 23 (.if_icmp .lt 5) (5) 28 := ⟨by decide +kernel, by decide, by decide⟩
theorem D105_28 : decode (mB 105) 28 = .ok (.iload_n 2, 1) := by decide +kernel
theorem D105_29 : BR 105 29 (.ifCond .ne 12) (12) 41 := ⟨by decide +kernel, by decide, by decide⟩
theorem D105_41 : decode (mB 105) 41 = .ok (.aload_n 0, 1) := by decide +kernel
theorem D105_42 : GF 105 42 7 4 2 := ⟨25, true, by decide +kernel, by decide +kernel⟩
theorem D105_45 : decode (mB 105) 45 = .ok (.iload_n 1, 1) := by decide +kernel
theorem D105_46 : decode (mB 105) 46 = .ok (.laload, 1) := by decide +kernel
theorem D105_47 : decode (mB 105) 47 = .ok (.lreturn, 1) := by decide +kernel
theorem D105_32 : decode (mB 105) 32 = .ok (.aload_n 0, 1) := by decide +kernel
theorem D105_33 : GF 105 33 7 3 2 := ⟨22, true, by decide +kernel, by decide +kernel⟩
theorem D105_36 : decode (mB 105) 36 = .ok (.iload_n 1, 1) := by decide +kernel
theorem D105_37 : decode (mB 105) 37 = .ok (.laload, 1) := by decide +kernel
theorem D105_38 : BR 105 38 (.goto 9) (9) 47 := ⟨by decide +kernel, by decide, by decide⟩
theorem Tk_lies_e (d : Nat) (a0 : Nat) (x1 : Int32) (x2 : Int32) (m : eM) (h_a0 : kd a0 = 7) : Tk_lies (d + 1) a0 x1 x2 m = bI (Tk_isIn d a0 x1 m) fun v2 m1 => if v2 = 0 then (yL (0 : Int64) m1) else (bR (gR m1 a0 3) fun r3 => gl r3 (if ((aln m1 r3).toInt32) ≤ x1 then (yL (0 : Int64) m1) else (bR (gR m1 a0 4) fun r4 => gl r4 (if x1 < ((aln m1 r4).toInt32) then (if ¬ x2 = 0 then (bR (gR m1 a0 4) fun r5 => ga m1 r5 21 x1 (yL (gL m1 r5 x1.toNatClampNeg) m1)) else (bR (gR m1 a0 3) fun r6 => ga m1 r6 21 x1 (yL (gL m1 r6 x1.toNatClampNeg) m1))) else (yL (0 : Int64) m1))))) := by
  unfold Tk_lies
  refine (x_aload1 D105_0 rfl).trans ?_
  refine (x_iload1 D105_1 rfl).trans ?_
  refine (x_cI D105_2 M73 (fun z => by cases z) (I73 _ _) rfl rfl (ok_i M73 (I73 _ _) rfl rfl h_a0)).trans (bI_c fun v2 m1 => ?_)
  refine (x_ifeq D105_5).trans (i_c ?_ ?_)
  · refine (x_lconst0 D105_26).trans ?_
    exact x_lret D105_27 M105.2.2.1
  · refine (x_iload1 D105_8 rfl).trans ?_
    refine (x_aload1 D105_9 rfl).trans ?_
    refine ((x_getR D105_10).trans (gd_t h_a0)).trans (bR_c fun r3 => ?_)
    refine (x_alen D105_13).trans (gl_c ?_)
    refine (x_cge D105_14).trans (i_c ?_ ?_)
    · refine (x_lconst0 D105_26).trans ?_
      exact x_lret D105_27 M105.2.2.1
    · refine (x_iload1 D105_17 rfl).trans ?_
      refine (x_aload1 D105_18 rfl).trans ?_
      refine ((x_getR D105_19).trans (gd_t h_a0)).trans (bR_c fun r4 => ?_)
      refine (x_alen D105_22).trans (gl_c ?_)
      refine (x_clt D105_23).trans (i_c ?_ ?_)
      · refine (x_iload1 D105_28 rfl).trans ?_
        refine (x_ifne D105_29).trans (i_c ?_ ?_)
        · refine (x_aload1 D105_41 rfl).trans ?_
          refine ((x_getR D105_42).trans (gd_t h_a0)).trans (bR_c fun r5 => ?_)
          refine (x_iload1 D105_45 rfl).trans ?_
          refine (x_laload D105_46).trans (ga_c ?_)
          exact x_lret D105_47 M105.2.2.1
        · refine (x_aload1 D105_32 rfl).trans ?_
          refine ((x_getR D105_33).trans (gd_t h_a0)).trans (bR_c fun r6 => ?_)
          refine (x_iload1 D105_36 rfl).trans ?_
          refine (x_laload D105_37).trans (ga_c ?_)
          refine (x_goto D105_38).trans ?_
          exact x_lret D105_47 M105.2.2.1
      · refine (x_lconst0 D105_26).trans ?_
        exact x_lret D105_27 M105.2.2.1
theorem D106_0 : decode (mB 106) 0 = .ok (.aload_n 0, 1) := by decide +kernel
theorem D106_1 : decode (mB 106) 1 = .ok (.iload_n 1, 1) := by decide +kernel
theorem D106_2 : CS 106 2 73 0 := ⟨.invokevirtual 32, by decide +kernel, by decide +kernel, by decide +kernel, by decide⟩
theorem D106_5 : BR 106 5 (.ifCond .eq 21) (21) 26 := ⟨by decide +kernel, by decide, by decide⟩
theorem D106_26 : decode (mB 106) 26 = .ok (.iconst (-1), 1) := by decide +kernel
theorem D106_27 : decode (mB 106) 27 = .ok (.ireturn, 1) := by decide +kernel
theorem D106_8 : decode (mB 106) 8 = .ok (.iload_n 1, 1) := by decide +kernel
theorem D106_9 : decode (mB 106) 9 = .ok (.aload_n 0, 1) := by decide +kernel
theorem D106_10 : GF 106 10 7 0 2 := ⟨11, true, by decide +kernel, by decide +kernel⟩
theorem D106_13 : decode (mB 106) 13 = .ok (.arraylength, 1) := by decide +kernel
theorem D106_14 : BR 106 14 (.if_icmp .ge 12) (12) 26 := ⟨by decide +kernel, by decide, by decide⟩
theorem D106_17 : decode (mB 106) 17 = .ok (.aload_n 0, 1) := by decide +kernel
theorem D106_18 : GF 106 18 7 0 2 := ⟨11, true, by decide +kernel, by decide +kernel⟩
theorem D106_21 : decode (mB 106) 21 = .ok (.iload_n 1, 1) := by decide +kernel
theorem D106_22 : decode (mB 106) 22 = .ok (.iaload, 1) := by decide +kernel
theorem D106_23 : BR 106 23 (.goto 4) (4) 27 := ⟨by decide +kernel, by decide, by decide⟩
theorem Tk_speaker_e (d : Nat) (a0 : Nat) (x1 : Int32) (m : eM) (h_a0 : kd a0 = 7) : Tk_speaker (d + 1) a0 x1 m = bI (Tk_isIn d a0 x1 m) fun v2 m1 => if v2 = 0 then (yI (-1 : Int32) m1) else (bR (gR m1 a0 0) fun r3 => gl r3 (if ((aln m1 r3).toInt32) ≤ x1 then (yI (-1 : Int32) m1) else (bR (gR m1 a0 0) fun r4 => ga m1 r4 20 x1 (yI (gI m1 r4 x1.toNatClampNeg) m1)))) := by
  unfold Tk_speaker
  refine (x_aload1 D106_0 rfl).trans ?_
  refine (x_iload1 D106_1 rfl).trans ?_
  refine (x_cI D106_2 M73 (fun z => by cases z) (I73 _ _) rfl rfl (ok_i M73 (I73 _ _) rfl rfl h_a0)).trans (bI_c fun v2 m1 => ?_)
  refine (x_ifeq D106_5).trans (i_c ?_ ?_)
  · refine (x_iconst D106_26 (k := -1) (by decide)).trans ?_
    exact x_iret D106_27 M106.2.2.1
  · refine (x_iload1 D106_8 rfl).trans ?_
    refine (x_aload1 D106_9 rfl).trans ?_
    refine ((x_getR D106_10).trans (gd_t h_a0)).trans (bR_c fun r3 => ?_)
    refine (x_alen D106_13).trans (gl_c ?_)
    refine (x_cge D106_14).trans (i_c ?_ ?_)
    · refine (x_iconst D106_26 (k := -1) (by decide)).trans ?_
      exact x_iret D106_27 M106.2.2.1
    · refine (x_aload1 D106_17 rfl).trans ?_
      refine ((x_getR D106_18).trans (gd_t h_a0)).trans (bR_c fun r4 => ?_)
      refine (x_iload1 D106_21 rfl).trans ?_
      refine (x_iaload D106_22).trans (ga_c ?_)
      refine (x_goto D106_23).trans ?_
      exact x_iret D106_27 M106.2.2.1
theorem D107_0 : decode (mB 107) 0 = .ok (.iload_n 1, 1) := by decide +kernel
theorem D107_1 : BR 107 1 (.ifCond .lt 16) (16) 17 := ⟨by decide +kernel, by decide, by decide⟩
theorem D107_17 : decode (mB 107) 17 = .ok (.return_, 1) := by decide +kernel
theorem D107_4 : decode (mB 107) 4 = .ok (.iload_n 1, 1) := by decide +kernel
theorem D107_5 : decode (mB 107) 5 = .ok (.aload_n 0, 1) := by decide +kernel
theorem D107_6 : decode (mB 107) 6 = .ok (.arraylength, 1) := by decide +kernel
theorem D107_7 : BR 107 7 (.if_icmp .ge 10) (10) 17 := ⟨by decide +kernel, by decide, by decide⟩
theorem D107_10 : decode (mB 107) 10 = .ok (.aload_n 0, 1) := by decide +kernel
theorem D107_11 : decode (mB 107) 11 = .ok (.iload_n 1, 1) := by decide +kernel
theorem D107_12 : decode (mB 107) 12 = .ok (.dup2, 1) := by decide +kernel
theorem D107_13 : decode (mB 107) 13 = .ok (.laload, 1) := by decide +kernel
theorem D107_14 : decode (mB 107) 14 = .ok (.lload_n 2, 1) := by decide +kernel
theorem D107_15 : decode (mB 107) 15 = .ok (.lor, 1) := by decide +kernel
theorem D107_16 : decode (mB 107) 16 = .ok (.lastore, 1) := by decide +kernel
theorem Ai_add_e (d : Nat) (a0 : Nat) (x1 : Int32) (y2 : Int64) (m : eM)  : Ai_add d a0 x1 y2 m = if x1 < 0 then (yV m) else (gl a0 (if ((aln m a0).toInt32) ≤ x1 then (yV m) else (ga m a0 21 x1 (gw m a0 21 x1 (mJ m a0 x1.toNatClampNeg ((gL m a0 x1.toNatClampNeg) ||| y2) fun m1 => yV m1))))) := by
  unfold Ai_add
  refine (x_iload1 D107_0 rfl).trans ?_
  refine (x_iflt D107_1).trans (i_c ?_ ?_)
  · exact x_vret D107_17 M107.2.2.1
  · refine (x_iload1 D107_4 rfl).trans ?_
    refine (x_aload1 D107_5 rfl).trans ?_
    refine (x_alen D107_6).trans (gl_c ?_)
    refine (x_cge D107_7).trans (i_c ?_ ?_)
    · exact x_vret D107_17 M107.2.2.1
    · refine (x_aload1 D107_10 rfl).trans ?_
      refine (x_iload1 D107_11 rfl).trans ?_
      refine (x_dup2I D107_12 rfl rfl).trans ?_
      refine (x_laload D107_13).trans (ga_c ?_)
      refine (x_lload1 D107_14 rfl).trans ?_
      refine (x_lor D107_15).trans ?_
      refine (x_lastore D107_16).trans (gw_c ?_)
      refine mJ_i (fun m1 => X d 107 17 [.ref a0, .int x1, .long y2, eU] [] m1) _ ?_
      intro m1
      exact x_vret D107_17 M107.2.2.1
theorem D108_0 : decode (mB 108) 0 = .ok (.iconst 0, 1) := by decide +kernel
theorem D108_1 : decode (mB 108) 1 = .ok (.istore_n 2, 1) := by decide +kernel
theorem D108_2 : decode (mB 108) 2 = .ok (.iload_n 2, 1) := by decide +kernel
theorem D108_3 : decode (mB 108) 3 = .ok (.aload_n 0, 1) := by decide +kernel
theorem D108_4 : GF 108 4 0 1 2 := ⟨15, true, by decide +kernel, by decide +kernel⟩
theorem D108_7 : decode (mB 108) 7 = .ok (.arraylength, 1) := by decide +kernel
theorem D108_8 : BR 108 8 (.if_icmp .ge 16) (16) 24 := ⟨by decide +kernel, by decide, by decide⟩
theorem D108_24 : decode (mB 108) 24 = .ok (.iconst 0, 1) := by decide +kernel
theorem D108_25 : decode (mB 108) 25 = .ok (.istore_n 2, 1) := by decide +kernel
theorem D108_11 : decode (mB 108) 11 = .ok (.aload_n 0, 1) := by decide +kernel
theorem D108_12 : GF 108 12 0 1 2 := ⟨15, true, by decide +kernel, by decide +kernel⟩
theorem D108_15 : decode (mB 108) 15 = .ok (.iload_n 2, 1) := by decide +kernel
theorem D108_16 : decode (mB 108) 16 = .ok (.lconst 0, 1) := by decide +kernel
theorem D108_17 : decode (mB 108) 17 = .ok (.lastore, 1) := by decide +kernel
theorem D108_18 : decode (mB 108) 18 = .ok (.iinc 2 1, 3) := by decide +kernel
theorem D108_21 : BR 108 21 (.goto (-19)) (-19) 2 := ⟨by decide +kernel, by decide, by decide⟩
theorem D108_26 : decode (mB 108) 26 = .ok (.iload_n 2, 1) := by decide +kernel
theorem D108_27 : decode (mB 108) 27 = .ok (.aload_n 0, 1) := by decide +kernel
theorem D108_28 : GF 108 28 0 0 2 := ⟨9, true, by decide +kernel, by decide +kernel⟩
theorem D108_31 : decode (mB 108) 31 = .ok (.arraylength, 1) := by decide +kernel
theorem D108_32 : BR 108 32 (.if_icmp .ge 57) (57) 89 := ⟨by decide +kernel, by decide, by decide⟩
theorem D108_89 : decode (mB 108) 89 = .ok (.return_, 1) := by decide +kernel
theorem D108_35 : decode (mB 108) 35 = .ok (.iconst 0, 1) := by decide +kernel
theorem D108_36 : decode (mB 108) 36 = .ok (.istore_n 3, 1) := by decide +kernel
theorem D108_37 : decode (mB 108) 37 = .ok (.iload_n 3, 1) := by decide +kernel
theorem D108_38 : decode (mB 108) 38 = .ok (.iload_n 2, 1) := by decide +kernel
theorem D108_39 : BR 108 39 (.if_icmp .ge 30) (30) 69 := ⟨by decide +kernel, by decide, by decide⟩
theorem D108_69 : decode (mB 108) 69 = .ok (.aload_n 0, 1) := by decide +kernel
theorem D108_70 : GF 108 70 0 1 2 := ⟨15, true, by decide +kernel, by decide +kernel⟩
theorem D108_73 : decode (mB 108) 73 = .ok (.iload_n 3, 1) := by decide +kernel
theorem D108_74 : decode (mB 108) 74 = .ok (.aload_n 0, 1) := by decide +kernel
theorem D108_75 : GF 108 75 0 0 2 := ⟨9, true, by decide +kernel, by decide +kernel⟩
theorem D108_78 : decode (mB 108) 78 = .ok (.iload_n 2, 1) := by decide +kernel
theorem D108_79 : decode (mB 108) 79 = .ok (.laload, 1) := by decide +kernel
theorem D108_80 : CS 108 80 107 2 := ⟨.invokestatic 43, by decide +kernel, by decide +kernel, by decide +kernel, by decide⟩
theorem D108_83 : decode (mB 108) 83 = .ok (.iinc 2 1, 3) := by decide +kernel
theorem D108_86 : BR 108 86 (.goto (-60)) (-60) 26 := ⟨by decide +kernel, by decide, by decide⟩
theorem D108_42 : decode (mB 108) 42 = .ok (.aload_n 1, 1) := by decide +kernel
theorem D108_43 : decode (mB 108) 43 = .ok (.iload_n 3, 1) := by decide +kernel
theorem D108_44 : CS 108 44 68 0 := ⟨.invokevirtual 53, by decide +kernel, by decide +kernel, by decide +kernel, by decide⟩
theorem D108_47 : BR 108 47 (.ifCond .eq 16) (16) 63 := ⟨by decide +kernel, by decide, by decide⟩
theorem D108_63 : decode (mB 108) 63 = .ok (.iinc 3 1, 3) := by decide +kernel
theorem D108_66 : BR 108 66 (.goto (-29)) (-29) 37 := ⟨by decide +kernel, by decide, by decide⟩
theorem D108_50 : decode (mB 108) 50 = .ok (.aload_n 1, 1) := by decide +kernel
theorem D108_51 : decode (mB 108) 51 = .ok (.iload_n 3, 1) := by decide +kernel
theorem D108_52 : CS 108 52 109 0 := ⟨.invokevirtual 57, by decide +kernel, by decide +kernel, by decide +kernel, by decide⟩
theorem D108_55 : decode (mB 108) 55 = .ok (.aload_n 1, 1) := by decide +kernel
theorem D108_56 : decode (mB 108) 56 = .ok (.iload_n 2, 1) := by decide +kernel
theorem D108_57 : CS 108 57 109 0 := ⟨.invokevirtual 57, by decide +kernel, by decide +kernel, by decide +kernel, by decide⟩
theorem D108_60 : BR 108 60 (.if_icmp .eq 9) (9) 69 := ⟨by decide +kernel, by decide, by decide⟩
theorem Ai_gather_e (d : Nat) (a0 : Nat) (a1 : Nat) (m : eM) (h_a0 : kd a0 = 0) (h_a1 : kd a1 = 4) : Ai_gather (d + 1) a0 a1 m = Ai_gather_2 (d + 1) a0 a1 (0 : Int32) m := by
  unfold Ai_gather
  refine (x_iconst D108_0 (k := 0) (by decide)).trans ?_
  refine (x_istore1 D108_1 (ls' := [.ref a0, .ref a1, .int (0 : Int32), eU]) rfl rfl).trans ?_
  rfl
theorem Ai_gather_2_e (d : Nat) (a0 : Nat) (a1 : Nat) (x2 : Int32) (m : eM) (h_a0 : kd a0 = 0) (h_a1 : kd a1 = 4) : Ai_gather_2 (d + 1) a0 a1 x2 m = bR (gR m a0 1) fun r1 => gl r1 (if ((aln m r1).toInt32) ≤ x2 then (Ai_gather_26 (d + 1) a0 a1 (0 : Int32) eU m) else (bR (gR m a0 1) fun r2 => gw m r2 21 x2 (mJ m r2 x2.toNatClampNeg (0 : Int64) fun m3 => Ai_gather_2 (d + 1) a0 a1 (x2 + (1 : Int32)) m3))) := by
  unfold Ai_gather_2
  refine (x_iload1 D108_2 rfl).trans ?_
  refine (x_aload1 D108_3 rfl).trans ?_
  refine ((x_getR D108_4).trans (gd_t h_a0)).trans (bR_c fun r1 => ?_)
  refine (x_alen D108_7).trans (gl_c ?_)
  refine (x_cge D108_8).trans (i_c ?_ ?_)
  · refine (x_iconst D108_24 (k := 0) (by decide)).trans ?_
    refine (x_istore1 D108_25 (ls' := [.ref a0, .ref a1, .int (0 : Int32), eU]) rfl rfl).trans ?_
    rfl
  · refine (x_aload1 D108_11 rfl).trans ?_
    refine ((x_getR D108_12).trans (gd_t h_a0)).trans (bR_c fun r2 => ?_)
    refine (x_iload1 D108_15 rfl).trans ?_
    refine (x_lconst0 D108_16).trans ?_
    refine (x_lastore D108_17).trans (gw_c ?_)
    refine mJ_i (fun m3 => X (d + 1) 108 18 [.ref a0, .ref a1, .int x2, eU] [] m3) _ ?_
    intro m3
    refine (x_iinc D108_18 rfl (k := 1) (by decide) (ls' := [.ref a0, .ref a1, .int (x2 + (1 : Int32)), eU]) rfl).trans ?_
    refine (x_goto D108_21).trans ?_
    rfl
theorem Ai_gather_26_e (d : Nat) (a0 : Nat) (a1 : Nat) (x2 : Int32) (w3 : Value) (m : eM) (h_a0 : kd a0 = 0) (h_a1 : kd a1 = 4) : Ai_gather_26 (d + 1) a0 a1 x2 w3 m = bR (gR m a0 0) fun r1 => gl r1 (if ((aln m r1).toInt32) ≤ x2 then (yV m) else (Ai_gather_37 (d + 1) a0 a1 x2 (0 : Int32) m)) := by
  unfold Ai_gather_26
  refine (x_iload1 D108_26 rfl).trans ?_
  refine (x_aload1 D108_27 rfl).trans ?_
  refine ((x_getR D108_28).trans (gd_t h_a0)).trans (bR_c fun r1 => ?_)
  refine (x_alen D108_31).trans (gl_c ?_)
  refine (x_cge D108_32).trans (i_c ?_ ?_)
  · exact x_vret D108_89 M108.2.2.1
  · refine (x_iconst D108_35 (k := 0) (by decide)).trans ?_
    refine (x_istore1 D108_36 (ls' := [.ref a0, .ref a1, .int x2, .int (0 : Int32)]) rfl rfl).trans ?_
    rfl
theorem Ai_gather_37_e (d : Nat) (a0 : Nat) (a1 : Nat) (x2 : Int32) (x3 : Int32) (m : eM) (h_a0 : kd a0 = 0) (h_a1 : kd a1 = 4) : Ai_gather_37 (d + 1) a0 a1 x2 x3 m = if x2 ≤ x3 then (bR (gR m a0 1) fun r1 => bR (gR m a0 0) fun r2 => ga m r2 21 x2 (bV (Ai_add d r1 x3 (gL m r2 x2.toNatClampNeg) m) fun m3 => Ai_gather_26 (d + 1) a0 a1 (x2 + (1 : Int32)) (.int x3) m3)) else (bI (Pa_isPerson d a1 x3 m) fun v5 m4 => if v5 = 0 then (Ai_gather_37 (d + 1) a0 a1 x2 (x3 + (1 : Int32)) m4) else (bI (Pa_bearing d a1 x3 m4) fun v7 m6 => bI (Pa_bearing d a1 x2 m6) fun v9 m8 => if v7 = v9 then (bR (gR m8 a0 1) fun r10 => bR (gR m8 a0 0) fun r11 => ga m8 r11 21 x2 (bV (Ai_add d r10 x3 (gL m8 r11 x2.toNatClampNeg) m8) fun m12 => Ai_gather_26 (d + 1) a0 a1 (x2 + (1 : Int32)) (.int x3) m12)) else (Ai_gather_37 (d + 1) a0 a1 x2 (x3 + (1 : Int32)) m8))) := by
  unfold Ai_gather_37
  refine (x_iload1 D108_37 rfl).trans ?_
  refine (x_iload1 D108_38 rfl).trans ?_
  refine (x_cge D108_39).trans (i_c ?_ ?_)
  · refine (x_aload1 D108_69 rfl).trans ?_
    refine ((x_getR D108_70).trans (gd_t h_a0)).trans (bR_c fun r1 => ?_)
    refine (x_iload1 D108_73 rfl).trans ?_
    refine (x_aload1 D108_74 rfl).trans ?_
    refine ((x_getR D108_75).trans (gd_t h_a0)).trans (bR_c fun r2 => ?_)
    refine (x_iload1 D108_78 rfl).trans ?_
    refine (x_laload D108_79).trans (ga_c ?_)
    refine (x_cV D108_80 M107  (I107 _ _ _) rfl rfl (ok_s M107 (I107 _ _ _) rfl rfl)).trans (bV_c fun m3 => ?_)
    refine (x_iinc D108_83 rfl (k := 1) (by decide) (ls' := [.ref a0, .ref a1, .int (x2 + (1 : Int32)), .int x3]) rfl).trans ?_
    refine (x_goto D108_86).trans ?_
    rfl
  · refine (x_aload1 D108_42 rfl).trans ?_
    refine (x_iload1 D108_43 rfl).trans ?_
    refine (x_cI D108_44 M68 (fun z => by cases z) (I68 _ _) rfl rfl (ok_i M68 (I68 _ _) rfl rfl h_a1)).trans (bI_c fun v5 m4 => ?_)
    refine (x_ifeq D108_47).trans (i_c ?_ ?_)
    · refine (x_iinc D108_63 rfl (k := 1) (by decide) (ls' := [.ref a0, .ref a1, .int x2, .int (x3 + (1 : Int32))]) rfl).trans ?_
      refine (x_goto D108_66).trans ?_
      rfl
    · refine (x_aload1 D108_50 rfl).trans ?_
      refine (x_iload1 D108_51 rfl).trans ?_
      refine (x_cI D108_52 M109 (fun z => by cases z) (I109 _ _) rfl rfl (ok_i M109 (I109 _ _) rfl rfl h_a1)).trans (bI_c fun v7 m6 => ?_)
      refine (x_aload1 D108_55 rfl).trans ?_
      refine (x_iload1 D108_56 rfl).trans ?_
      refine (x_cI D108_57 M109 (fun z => by cases z) (I109 _ _) rfl rfl (ok_i M109 (I109 _ _) rfl rfl h_a1)).trans (bI_c fun v9 m8 => ?_)
      refine (x_ceq D108_60).trans (i_c ?_ ?_)
      · refine (x_aload1 D108_69 rfl).trans ?_
        refine ((x_getR D108_70).trans (gd_t h_a0)).trans (bR_c fun r10 => ?_)
        refine (x_iload1 D108_73 rfl).trans ?_
        refine (x_aload1 D108_74 rfl).trans ?_
        refine ((x_getR D108_75).trans (gd_t h_a0)).trans (bR_c fun r11 => ?_)
        refine (x_iload1 D108_78 rfl).trans ?_
        refine (x_laload D108_79).trans (ga_c ?_)
        refine (x_cV D108_80 M107  (I107 _ _ _) rfl rfl (ok_s M107 (I107 _ _ _) rfl rfl)).trans (bV_c fun m12 => ?_)
        refine (x_iinc D108_83 rfl (k := 1) (by decide) (ls' := [.ref a0, .ref a1, .int (x2 + (1 : Int32)), .int x3]) rfl).trans ?_
        refine (x_goto D108_86).trans ?_
        rfl
      · refine (x_iinc D108_63 rfl (k := 1) (by decide) (ls' := [.ref a0, .ref a1, .int x2, .int (x3 + (1 : Int32))]) rfl).trans ?_
        refine (x_goto D108_66).trans ?_
        rfl
theorem D110_0 : decode (mB 110) 0 = .ok (.aload_n 0, 1) := by decide +kernel
theorem D110_1 : decode (mB 110) 1 = .ok (.aload_n 0, 1) := by decide +kernel
theorem D110_2 : GF 110 2 3 2 2 := ⟨18, true, by decide +kernel, by decide +kernel⟩
theorem D110_5 : decode (mB 110) 5 = .ok (.iload_n 1, 1) := by decide +kernel
theorem D110_6 : CS 110 6 100 0 := ⟨.invokevirtual 28, by decide +kernel, by decide +kernel, by decide +kernel, by decide⟩
theorem D110_9 : BR 110 9 (.ifCond .eq 12) (12) 21 := ⟨by decide +kernel, by decide, by decide⟩
theorem D110_21 : decode (mB 110) 21 = .ok (.iconst 0, 1) := by decide +kernel
theorem D110_22 : decode (mB 110) 22 = .ok (.ireturn, 1) := by decide +kernel
theorem D110_12 : decode (mB 110) 12 = .ok (.aload_n 0, 1) := by decide +kernel
theorem D110_13 : GF 110 13 3 2 2 := ⟨18, true, by decide +kernel, by decide +kernel⟩
theorem D110_16 : decode (mB 110) 16 = .ok (.iload_n 1, 1) := by decide +kernel
theorem D110_17 : decode (mB 110) 17 = .ok (.iaload, 1) := by decide +kernel
theorem D110_18 : BR 110 18 (.goto 4) (4) 22 := ⟨by decide +kernel, by decide, by decide⟩
theorem Lo_from_e (d : Nat) (a0 : Nat) (x1 : Int32) (m : eM) (h_a0 : kd a0 = 3) : Lo_from (d + 1) a0 x1 m = bR (gR m a0 2) fun r1 => bI (Lo_isIn d a0 r1 x1 m) fun v3 m2 => if v3 = 0 then (yI (0 : Int32) m2) else (bR (gR m2 a0 2) fun r4 => ga m2 r4 20 x1 (yI (gI m2 r4 x1.toNatClampNeg) m2)) := by
  unfold Lo_from
  refine (x_aload1 D110_0 rfl).trans ?_
  refine (x_aload1 D110_1 rfl).trans ?_
  refine ((x_getR D110_2).trans (gd_t h_a0)).trans (bR_c fun r1 => ?_)
  refine (x_iload1 D110_5 rfl).trans ?_
  refine (x_cI D110_6 M100 (fun z => by cases z) (I100 _ _ _) rfl rfl (ok_i M100 (I100 _ _ _) rfl rfl h_a0)).trans (bI_c fun v3 m2 => ?_)
  refine (x_ifeq D110_9).trans (i_c ?_ ?_)
  · refine (x_iconst D110_21 (k := 0) (by decide)).trans ?_
    exact x_iret D110_22 M110.2.2.1
  · refine (x_aload1 D110_12 rfl).trans ?_
    refine ((x_getR D110_13).trans (gd_t h_a0)).trans (bR_c fun r4 => ?_)
    refine (x_iload1 D110_16 rfl).trans ?_
    refine (x_iaload D110_17).trans (ga_c ?_)
    refine (x_goto D110_18).trans ?_
    exact x_iret D110_22 M110.2.2.1
theorem D111_0 : decode (mB 111) 0 = .ok (.aload_n 0, 1) := by decide +kernel
theorem D111_1 : decode (mB 111) 1 = .ok (.aload_n 0, 1) := by decide +kernel
theorem D111_2 : GF 111 2 3 3 2 := ⟨21, true, by decide +kernel, by decide +kernel⟩
theorem D111_5 : decode (mB 111) 5 = .ok (.iload_n 1, 1) := by decide +kernel
theorem D111_6 : CS 111 6 100 0 := ⟨.invokevirtual 28, by decide +kernel, by decide +kernel, by decide +kernel, by decide⟩
theorem D111_9 : BR 111 9 (.ifCond .eq 12) (12) 21 := ⟨by decide +kernel, by decide, by decide⟩
theorem D111_21 : decode (mB 111) 21 = .ok (.iconst 0, 1) := by decide +kernel
theorem D111_22 : decode (mB 111) 22 = .ok (.ireturn, 1) := by decide +kernel
theorem D111_12 : decode (mB 111) 12 = .ok (.aload_n 0, 1) := by decide +kernel
theorem D111_13 : GF 111 13 3 3 2 := ⟨21, true, by decide +kernel, by decide +kernel⟩
theorem D111_16 : decode (mB 111) 16 = .ok (.iload_n 1, 1) := by decide +kernel
theorem D111_17 : decode (mB 111) 17 = .ok (.iaload, 1) := by decide +kernel
theorem D111_18 : BR 111 18 (.goto 4) (4) 22 := ⟨by decide +kernel, by decide, by decide⟩
theorem Lo_to_e (d : Nat) (a0 : Nat) (x1 : Int32) (m : eM) (h_a0 : kd a0 = 3) : Lo_to (d + 1) a0 x1 m = bR (gR m a0 3) fun r1 => bI (Lo_isIn d a0 r1 x1 m) fun v3 m2 => if v3 = 0 then (yI (0 : Int32) m2) else (bR (gR m2 a0 3) fun r4 => ga m2 r4 20 x1 (yI (gI m2 r4 x1.toNatClampNeg) m2)) := by
  unfold Lo_to
  refine (x_aload1 D111_0 rfl).trans ?_
  refine (x_aload1 D111_1 rfl).trans ?_
  refine ((x_getR D111_2).trans (gd_t h_a0)).trans (bR_c fun r1 => ?_)
  refine (x_iload1 D111_5 rfl).trans ?_
  refine (x_cI D111_6 M100 (fun z => by cases z) (I100 _ _ _) rfl rfl (ok_i M100 (I100 _ _ _) rfl rfl h_a0)).trans (bI_c fun v3 m2 => ?_)
  refine (x_ifeq D111_9).trans (i_c ?_ ?_)
  · refine (x_iconst D111_21 (k := 0) (by decide)).trans ?_
    exact x_iret D111_22 M111.2.2.1
  · refine (x_aload1 D111_12 rfl).trans ?_
    refine ((x_getR D111_13).trans (gd_t h_a0)).trans (bR_c fun r4 => ?_)
    refine (x_iload1 D111_16 rfl).trans ?_
    refine (x_iaload D111_17).trans (ga_c ?_)
    refine (x_goto D111_18).trans ?_
    exact x_iret D111_22 M111.2.2.1
theorem D112_0 : decode (mB 112) 0 = .ok (.lconst 0, 1) := by decide +kernel
theorem D112_1 : decode (mB 112) 1 = .ok (.lstore 4, 2) := by decide +kernel
theorem D112_3 : decode (mB 112) 3 = .ok (.iconst 0, 1) := by decide +kernel
theorem D112_4 : decode (mB 112) 4 = .ok (.istore 6, 2) := by decide +kernel
theorem D112_6 : decode (mB 112) 6 = .ok (.iload 6, 2) := by decide +kernel
theorem D112_8 : decode (mB 112) 8 = .ok (.aload_n 0, 1) := by decide +kernel
theorem D112_9 : GF 112 9 0 0 2 := ⟨9, true, by decide +kernel, by decide +kernel⟩
theorem D112_12 : decode (mB 112) 12 = .ok (.arraylength, 1) := by decide +kernel
theorem D112_13 : BR 112 13 (.if_icmp .ge 39) (39) 52 := ⟨by decide +kernel, by decide, by decide⟩
theorem D112_52 : decode (mB 112) 52 = .ok (.lload 4, 2) := by decide +kernel
theorem D112_54 : decode (mB 112) 54 = .ok (.lreturn, 1) := by decide +kernel
theorem D112_16 : decode (mB 112) 16 = .ok (.lload 4, 2) := by decide +kernel
theorem D112_18 : decode (mB 112) 18 = .ok (.aload_n 1, 1) := by decide +kernel
theorem D112_19 : decode (mB 112) 19 = .ok (.iload 6, 2) := by decide +kernel
theorem D112_21 : CS 112 21 109 0 := ⟨.invokevirtual 57, by decide +kernel, by decide +kernel, by decide +kernel, by decide⟩
theorem D112_24 : decode (mB 112) 24 = .ok (.iload_n 2, 1) := by decide +kernel
theorem D112_25 : decode (mB 112) 25 = .ok (.iload_n 3, 1) := by decide +kernel
theorem D112_26 : CS 112 26 113 2 := ⟨.invokestatic 60, by decide +kernel, by decide +kernel, by decide +kernel, by decide⟩
theorem D112_29 : BR 112 29 (.ifCond .eq 13) (13) 42 := ⟨by decide +kernel, by decide, by decide⟩
theorem D112_42 : decode (mB 112) 42 = .ok (.lconst 0, 1) := by decide +kernel
theorem D112_43 : decode (mB 112) 43 = .ok (.lor, 1) := by decide +kernel
theorem D112_44 : decode (mB 112) 44 = .ok (.lstore 4, 2) := by decide +kernel
theorem D112_46 : decode (mB 112) 46 = .ok (.iinc 6 1, 3) := by decide +kernel
theorem D112_49 : BR 112 49 (.goto (-43)) (-43) 6 := ⟨by decide +kernel, by decide, by decide⟩
theorem D112_32 : decode (mB 112) 32 = .ok (.aload_n 0, 1) := by decide +kernel
theorem D112_33 : GF 112 33 0 0 2 := ⟨9, true, by decide +kernel, by decide +kernel⟩
theorem D112_36 : decode (mB 112) 36 = .ok (.iload 6, 2) := by decide +kernel
theorem D112_38 : decode (mB 112) 38 = .ok (.laload, 1) := by decide +kernel
theorem D112_39 : BR 112 39 (.goto 4) (4) 43 := ⟨by decide +kernel, by decide, by decide⟩
theorem Ai_within_e (d : Nat) (a0 : Nat) (a1 : Nat) (x2 : Int32) (x3 : Int32) (m : eM) (h_a0 : kd a0 = 0) (h_a1 : kd a1 = 4) : Ai_within (d + 1) a0 a1 x2 x3 m = Ai_within_6 (d + 1) a0 a1 x2 x3 (0 : Int64) (0 : Int32) m := by
  unfold Ai_within
  refine (x_lconst0 D112_0).trans ?_
  refine (x_lstore2 D112_1 (ls' := [.ref a0, .ref a1, .int x2, .int x3, .long (0 : Int64), eU, eU]) rfl rfl).trans ?_
  refine (x_iconst D112_3 (k := 0) (by decide)).trans ?_
  refine (x_istore2 D112_4 (ls' := [.ref a0, .ref a1, .int x2, .int x3, .long (0 : Int64), eU, .int (0 : Int32)]) rfl rfl).trans ?_
  rfl
theorem Ai_within_6_e (d : Nat) (a0 : Nat) (a1 : Nat) (x2 : Int32) (x3 : Int32) (y4 : Int64) (x6 : Int32) (m : eM) (h_a0 : kd a0 = 0) (h_a1 : kd a1 = 4) : Ai_within_6 (d + 1) a0 a1 x2 x3 y4 x6 m = bR (gR m a0 0) fun r1 => gl r1 (if ((aln m r1).toInt32) ≤ x6 then (yL y4 m) else (bI (Pa_bearing d a1 x6 m) fun v3 m2 => bI (LC_isWithin d v3 x2 x3 m2) fun v5 m4 => if v5 = 0 then (Ai_within_6 (d + 1) a0 a1 x2 x3 (y4 ||| (0 : Int64)) (x6 + (1 : Int32)) m4) else (bR (gR m4 a0 0) fun r6 => ga m4 r6 21 x6 (Ai_within_6 (d + 1) a0 a1 x2 x3 (y4 ||| (gL m4 r6 x6.toNatClampNeg)) (x6 + (1 : Int32)) m4)))) := by
  unfold Ai_within_6
  refine (x_iload2 D112_6 rfl).trans ?_
  refine (x_aload1 D112_8 rfl).trans ?_
  refine ((x_getR D112_9).trans (gd_t h_a0)).trans (bR_c fun r1 => ?_)
  refine (x_alen D112_12).trans (gl_c ?_)
  refine (x_cge D112_13).trans (i_c ?_ ?_)
  · refine (x_lload2 D112_52 rfl).trans ?_
    exact x_lret D112_54 M112.2.2.1
  · refine (x_lload2 D112_16 rfl).trans ?_
    refine (x_aload1 D112_18 rfl).trans ?_
    refine (x_iload2 D112_19 rfl).trans ?_
    refine (x_cI D112_21 M109 (fun z => by cases z) (I109 _ _) rfl rfl (ok_i M109 (I109 _ _) rfl rfl h_a1)).trans (bI_c fun v3 m2 => ?_)
    refine (x_iload1 D112_24 rfl).trans ?_
    refine (x_iload1 D112_25 rfl).trans ?_
    refine (x_cI D112_26 M113 (fun z => by cases z) (I113 _ _ _) rfl rfl (ok_s M113 (I113 _ _ _) rfl rfl)).trans (bI_c fun v5 m4 => ?_)
    refine (x_ifeq D112_29).trans (i_c ?_ ?_)
    · refine (x_lconst0 D112_42).trans ?_
      refine (x_lor D112_43).trans ?_
      refine (x_lstore2 D112_44 (ls' := [.ref a0, .ref a1, .int x2, .int x3, .long (y4 ||| (0 : Int64)), eU, .int x6]) rfl rfl).trans ?_
      refine (x_iinc D112_46 rfl (k := 1) (by decide) (ls' := [.ref a0, .ref a1, .int x2, .int x3, .long (y4 ||| (0 : Int64)), eU, .int (x6 + (1 : Int32))]) rfl).trans ?_
      refine (x_goto D112_49).trans ?_
      rfl
    · refine (x_aload1 D112_32 rfl).trans ?_
      refine ((x_getR D112_33).trans (gd_t h_a0)).trans (bR_c fun r6 => ?_)
      refine (x_iload2 D112_36 rfl).trans ?_
      refine (x_laload D112_38).trans (ga_c ?_)
      refine (x_goto D112_39).trans ?_
      refine (x_lor D112_43).trans ?_
      refine (x_lstore2 D112_44 (ls' := [.ref a0, .ref a1, .int x2, .int x3, .long (y4 ||| (gL m4 r6 x6.toNatClampNeg)), eU, .int x6]) rfl rfl).trans ?_
      refine (x_iinc D112_46 rfl (k := 1) (by decide) (ls' := [.ref a0, .ref a1, .int x2, .int x3, .long (y4 ||| (gL m4 r6 x6.toNatClampNeg)), eU, .int (x6 + (1 : Int32))]) rfl).trans ?_
      refine (x_goto D112_49).trans ?_
      rfl
theorem D115_0 : decode (mB 115) 0 = .ok (.aload_n 0, 1) := by decide +kernel
theorem D115_1 : decode (mB 115) 1 = .ok (.iload_n 1, 1) := by decide +kernel
theorem D115_2 : CS 115 2 73 0 := ⟨.invokevirtual 32, by decide +kernel, by decide +kernel, by decide +kernel, by decide⟩
theorem D115_5 : BR 115 5 (.ifCond .eq 21) (21) 26 := ⟨by decide +kernel, by decide, by decide⟩
theorem D115_26 : decode (mB 115) 26 = .ok (.lconst 0, 1) := by decide +kernel
theorem D115_27 : decode (mB 115) 27 = .ok (.lreturn, 1) := by decide +kernel
theorem D115_8 : decode (mB 115) 8 = .ok (.iload_n 1, 1) := by decide +kernel
theorem D115_9 : decode (mB 115) 9 = .ok (.aload_n 0, 1) := by decide +kernel
theorem D115_10 : GF 115 10 7 2 2 := ⟨18, true, by decide +kernel, by decide +kernel⟩
theorem D115_13 : decode (mB 115) 13 = .ok (.arraylength, 1) := by decide +kernel
theorem D115_14 : BR 115 14 (.if_icmp .ge 12) (12) 26 := ⟨by decide +kernel, by decide, by decide⟩
theorem D115_17 : decode (mB 115) 17 = .ok (.aload_n 0, 1) := by decide +kernel
theorem D115_18 : GF 115 18 7 2 2 := ⟨18, true, by decide +kernel, by decide +kernel⟩
theorem D115_21 : decode (mB 115) 21 = .ok (.iload_n 1, 1) := by decide +kernel
theorem D115_22 : decode (mB 115) 22 = .ok (.laload, 1) := by decide +kernel
theorem D115_23 : BR 115 23 (.goto 4) (4) 27 := ⟨by decide +kernel, by decide, by decide⟩
theorem Tk_so_e (d : Nat) (a0 : Nat) (x1 : Int32) (m : eM) (h_a0 : kd a0 = 7) : Tk_so (d + 1) a0 x1 m = bI (Tk_isIn d a0 x1 m) fun v2 m1 => if v2 = 0 then (yL (0 : Int64) m1) else (bR (gR m1 a0 2) fun r3 => gl r3 (if ((aln m1 r3).toInt32) ≤ x1 then (yL (0 : Int64) m1) else (bR (gR m1 a0 2) fun r4 => ga m1 r4 21 x1 (yL (gL m1 r4 x1.toNatClampNeg) m1)))) := by
  unfold Tk_so
  refine (x_aload1 D115_0 rfl).trans ?_
  refine (x_iload1 D115_1 rfl).trans ?_
  refine (x_cI D115_2 M73 (fun z => by cases z) (I73 _ _) rfl rfl (ok_i M73 (I73 _ _) rfl rfl h_a0)).trans (bI_c fun v2 m1 => ?_)
  refine (x_ifeq D115_5).trans (i_c ?_ ?_)
  · refine (x_lconst0 D115_26).trans ?_
    exact x_lret D115_27 M115.2.2.1
  · refine (x_iload1 D115_8 rfl).trans ?_
    refine (x_aload1 D115_9 rfl).trans ?_
    refine ((x_getR D115_10).trans (gd_t h_a0)).trans (bR_c fun r3 => ?_)
    refine (x_alen D115_13).trans (gl_c ?_)
    refine (x_cge D115_14).trans (i_c ?_ ?_)
    · refine (x_lconst0 D115_26).trans ?_
      exact x_lret D115_27 M115.2.2.1
    · refine (x_aload1 D115_17 rfl).trans ?_
      refine ((x_getR D115_18).trans (gd_t h_a0)).trans (bR_c fun r4 => ?_)
      refine (x_iload1 D115_21 rfl).trans ?_
      refine (x_laload D115_22).trans (ga_c ?_)
      refine (x_goto D115_23).trans ?_
      exact x_lret D115_27 M115.2.2.1
theorem D117_0 : decode (mB 117) 0 = .ok (.aload_n 0, 1) := by decide +kernel
theorem D117_1 : GF 117 1 7 5 0 := ⟨28, false, by decide +kernel, by decide +kernel⟩
theorem D117_4 : decode (mB 117) 4 = .ok (.iconst 1, 1) := by decide +kernel
theorem D117_5 : decode (mB 117) 5 = .ok (.isub, 1) := by decide +kernel
theorem D117_6 : decode (mB 117) 6 = .ok (.istore 5, 2) := by decide +kernel
theorem D117_8 : decode (mB 117) 8 = .ok (.iload 5, 2) := by decide +kernel
theorem D117_10 : BR 117 10 (.ifCond .lt 51) (51) 61 := ⟨by decide +kernel, by decide, by decide⟩
theorem D117_61 : decode (mB 117) 61 = .ok (.iconst (-1), 1) := by decide +kernel
theorem D117_62 : decode (mB 117) 62 = .ok (.ireturn, 1) := by decide +kernel
theorem D117_13 : decode (mB 117) 13 = .ok (.aload_n 0, 1) := by decide +kernel
theorem D117_14 : decode (mB 117) 14 = .ok (.iload 5, 2) := by decide +kernel
theorem D117_16 : CS 117 16 72 0 := ⟨.invokevirtual 36, by decide +kernel, by decide +kernel, by decide +kernel, by decide⟩
theorem D117_19 : decode (mB 117) 19 = .ok (.aload_n 1, 1) := by decide +kernel
theorem D117_20 : decode (mB 117) 20 = .ok (.iload_n 2, 1) := by decide +kernel
theorem D117_21 : CS 117 21 103 0 := ⟨.invokevirtual 64, by decide +kernel, by decide +kernel, by decide +kernel, by decide⟩
theorem D117_24 : decode (mB 117) 24 = .ok (.iadd, 1) := by decide +kernel
theorem D117_25 : decode (mB 117) 25 = .ok (.iload_n 3, 1) := by decide +kernel
theorem D117_26 : BR 117 26 (.if_icmp .gt 29) (29) 55 := ⟨by decide +kernel, by decide, by decide⟩
theorem D117_55 : decode (mB 117) 55 = .ok (.iinc 5 (-1), 3) := by decide +kernel
theorem D117_58 : BR 117 58 (.goto (-50)) (-50) 8 := ⟨by decide +kernel, by decide, by decide⟩
theorem D117_29 : decode (mB 117) 29 = .ok (.aload_n 0, 1) := by decide +kernel
theorem D117_30 : decode (mB 117) 30 = .ok (.iload 5, 2) := by decide +kernel
theorem D117_32 : decode (mB 117) 32 = .ok (.aload_n 1, 1) := by decide +kernel
theorem D117_33 : decode (mB 117) 33 = .ok (.iload_n 2, 1) := by decide +kernel
theorem D117_34 : CS 117 34 104 0 := ⟨.invokevirtual 69, by decide +kernel, by decide +kernel, by decide +kernel, by decide⟩
theorem D117_37 : CS 117 37 105 0 := ⟨.invokevirtual 56, by decide +kernel, by decide +kernel, by decide +kernel, by decide⟩
theorem D117_40 : decode (mB 117) 40 = .ok (.iload 4, 2) := by decide +kernel
theorem D117_42 : CS 117 42 96 2 := ⟨.invokestatic 72, by decide +kernel, by decide +kernel, by decide +kernel, by decide⟩
theorem D117_45 : BR 117 45 (.ifCond .eq 10) (10) 55 := ⟨by decide +kernel, by decide, by decide⟩
theorem D117_48 : decode (mB 117) 48 = .ok (.aload_n 0, 1) := by decide +kernel
theorem D117_49 : decode (mB 117) 49 = .ok (.iload 5, 2) := by decide +kernel
theorem D117_51 : CS 117 51 106 0 := ⟨.invokevirtual 50, by decide +kernel, by decide +kernel, by decide +kernel, by decide⟩
theorem D117_54 : decode (mB 117) 54 = .ok (.ireturn, 1) := by decide +kernel
theorem Tk_lastLiar_e (d : Nat) (a0 : Nat) (a1 : Nat) (x2 : Int32) (x3 : Int32) (x4 : Int32) (m : eM) (h_a0 : kd a0 = 7) (h_a1 : kd a1 = 4) : Tk_lastLiar (d + 1) a0 a1 x2 x3 x4 m = Tk_lastLiar_8 (d + 1) a0 a1 x2 x3 x4 ((gI m a0 5) - (1 : Int32)) m := by
  unfold Tk_lastLiar
  refine (x_aload1 D117_0 rfl).trans ?_
  refine ((x_getI D117_1).trans (gd_t h_a0)).trans ?_
  refine (x_iconst D117_4 (k := 1) (by decide)).trans ?_
  refine (x_isub D117_5).trans ?_
  refine (x_istore2 D117_6 (ls' := [.ref a0, .ref a1, .int x2, .int x3, .int x4, .int ((gI m a0 5) - (1 : Int32))]) rfl rfl).trans ?_
  rfl
theorem Tk_lastLiar_8_e (d : Nat) (a0 : Nat) (a1 : Nat) (x2 : Int32) (x3 : Int32) (x4 : Int32) (x5 : Int32) (m : eM) (h_a0 : kd a0 = 7) (h_a1 : kd a1 = 4) : Tk_lastLiar_8 (d + 1) a0 a1 x2 x3 x4 x5 m = if x5 < 0 then (yI (-1 : Int32) m) else (bI (Tk_minute d a0 x5 m) fun v2 m1 => bI (Pa_late d a1 x2 m1) fun v4 m3 => if x3 < (v2 + v4) then (Tk_lastLiar_8 (d + 1) a0 a1 x2 x3 x4 (x5 + (-1 : Int32)) m3) else (bI (Pa_law d a1 x2 m3) fun v6 m5 => bL (Tk_lies d a0 x5 v6 m5) fun v8 m7 => bI (LC_holds d v8 x4 m7) fun v10 m9 => if v10 = 0 then (Tk_lastLiar_8 (d + 1) a0 a1 x2 x3 x4 (x5 + (-1 : Int32)) m9) else (bI (Tk_speaker d a0 x5 m9) fun v12 m11 => yI v12 m11))) := by
  unfold Tk_lastLiar_8
  refine (x_iload2 D117_8 rfl).trans ?_
  refine (x_iflt D117_10).trans (i_c ?_ ?_)
  · refine (x_iconst D117_61 (k := -1) (by decide)).trans ?_
    exact x_iret D117_62 M117.2.2.1
  · refine (x_aload1 D117_13 rfl).trans ?_
    refine (x_iload2 D117_14 rfl).trans ?_
    refine (x_cI D117_16 M72 (fun z => by cases z) (I72 _ _) rfl rfl (ok_i M72 (I72 _ _) rfl rfl h_a0)).trans (bI_c fun v2 m1 => ?_)
    refine (x_aload1 D117_19 rfl).trans ?_
    refine (x_iload1 D117_20 rfl).trans ?_
    refine (x_cI D117_21 M103 (fun z => by cases z) (I103 _ _) rfl rfl (ok_i M103 (I103 _ _) rfl rfl h_a1)).trans (bI_c fun v4 m3 => ?_)
    refine (x_iadd D117_24).trans ?_
    refine (x_iload1 D117_25 rfl).trans ?_
    refine (x_cgt D117_26).trans (i_c ?_ ?_)
    · refine (x_iinc D117_55 rfl (k := -1) (by decide) (ls' := [.ref a0, .ref a1, .int x2, .int x3, .int x4, .int (x5 + (-1 : Int32))]) rfl).trans ?_
      refine (x_goto D117_58).trans ?_
      rfl
    · refine (x_aload1 D117_29 rfl).trans ?_
      refine (x_iload2 D117_30 rfl).trans ?_
      refine (x_aload1 D117_32 rfl).trans ?_
      refine (x_iload1 D117_33 rfl).trans ?_
      refine (x_cI D117_34 M104 (fun z => by cases z) (I104 _ _) rfl rfl (ok_i M104 (I104 _ _) rfl rfl h_a1)).trans (bI_c fun v6 m5 => ?_)
      refine (x_cL D117_37 M105  (I105 _ _ _) rfl rfl (ok_i M105 (I105 _ _ _) rfl rfl h_a0)).trans (bL_c fun v8 m7 => ?_)
      refine (x_iload2 D117_40 rfl).trans ?_
      refine (x_cI D117_42 M96 (fun z => by cases z) (I96 _ _) rfl rfl (ok_s M96 (I96 _ _) rfl rfl)).trans (bI_c fun v10 m9 => ?_)
      refine (x_ifeq D117_45).trans (i_c ?_ ?_)
      · refine (x_iinc D117_55 rfl (k := -1) (by decide) (ls' := [.ref a0, .ref a1, .int x2, .int x3, .int x4, .int (x5 + (-1 : Int32))]) rfl).trans ?_
        refine (x_goto D117_58).trans ?_
        rfl
      · refine (x_aload1 D117_48 rfl).trans ?_
        refine (x_iload2 D117_49 rfl).trans ?_
        refine (x_cI D117_51 M106 (fun z => by cases z) (I106 _ _) rfl rfl (ok_i M106 (I106 _ _) rfl rfl h_a0)).trans (bI_c fun v12 m11 => ?_)
        exact x_iret D117_54 M117.2.2.1
theorem D141_0 : decode (mB 141) 0 = .ok (.iconst 0, 1) := by decide +kernel
theorem D141_1 : decode (mB 141) 1 = .ok (.istore_n 1, 1) := by decide +kernel
theorem D141_2 : decode (mB 141) 2 = .ok (.aload_n 0, 1) := by decide +kernel
theorem D141_3 : GF 141 3 0 1 2 := ⟨15, true, by decide +kernel, by decide +kernel⟩
theorem D141_6 : decode (mB 141) 6 = .ok (.astore_n 2, 1) := by decide +kernel
theorem D141_7 : decode (mB 141) 7 = .ok (.aload_n 2, 1) := by decide +kernel
theorem D141_8 : decode (mB 141) 8 = .ok (.arraylength, 1) := by decide +kernel
theorem D141_9 : decode (mB 141) 9 = .ok (.istore_n 3, 1) := by decide +kernel
theorem D141_10 : decode (mB 141) 10 = .ok (.iconst 0, 1) := by decide +kernel
theorem D141_11 : decode (mB 141) 11 = .ok (.istore 4, 2) := by decide +kernel
theorem D141_13 : decode (mB 141) 13 = .ok (.iload 4, 2) := by decide +kernel
theorem D141_15 : decode (mB 141) 15 = .ok (.iload_n 3, 1) := by decide +kernel
theorem D141_16 : BR 141 16 (.if_icmp .ge 30) (30) 46 := ⟨by decide +kernel, by decide, by decide⟩
theorem D141_46 : decode (mB 141) 46 = .ok (.iload_n 1, 1) := by decide +kernel
theorem D141_47 : decode (mB 141) 47 = .ok (.ireturn, 1) := by decide +kernel
theorem D141_19 : decode (mB 141) 19 = .ok (.aload_n 2, 1) := by decide +kernel
theorem D141_20 : decode (mB 141) 20 = .ok (.iload 4, 2) := by decide +kernel
theorem D141_22 : decode (mB 141) 22 = .ok (.laload, 1) := by decide +kernel
theorem D141_23 : decode (mB 141) 23 = .ok (.lstore 5, 2) := by decide +kernel
theorem D141_25 : decode (mB 141) 25 = .ok (.iload_n 1, 1) := by decide +kernel
theorem D141_26 : decode (mB 141) 26 = .ok (.lload 5, 2) := by decide +kernel
theorem D141_28 : decode (mB 141) 28 = .ok (.lconst 0, 1) := by decide +kernel
theorem D141_29 : decode (mB 141) 29 = .ok (.lcmp, 1) := by decide +kernel
theorem D141_30 : BR 141 30 (.ifCond .eq 7) (7) 37 := ⟨by decide +kernel, by decide, by decide⟩
theorem D141_37 : decode (mB 141) 37 = .ok (.iconst 0, 1) := by decide +kernel
theorem D141_38 : decode (mB 141) 38 = .ok (.iadd, 1) := by decide +kernel
theorem D141_39 : decode (mB 141) 39 = .ok (.istore_n 1, 1) := by decide +kernel
theorem D141_40 : decode (mB 141) 40 = .ok (.iinc 4 1, 3) := by decide +kernel
theorem D141_43 : BR 141 43 (.goto (-30)) (-30) 13 := ⟨by decide +kernel, by decide, by decide⟩
theorem D141_33 : decode (mB 141) 33 = .ok (.iconst 1, 1) := by decide +kernel
theorem D141_34 : BR 141 34 (.goto 4) (4) 38 := ⟨by decide +kernel, by decide, by decide⟩
theorem Ai_bearings_e (d : Nat) (a0 : Nat) (m : eM) (h_a0 : kd a0 = 0) : Ai_bearings d a0 m = bR (gR m a0 1) fun r1 => gl r1 (Ai_bearings_13 d a0 (0 : Int32) r1 ((aln m r1).toInt32) (0 : Int32) eU m) := by
  unfold Ai_bearings
  refine (x_iconst D141_0 (k := 0) (by decide)).trans ?_
  refine (x_istore1 D141_1 (ls' := [.ref a0, .int (0 : Int32), eU, eU, eU, eU, eU]) rfl rfl).trans ?_
  refine (x_aload1 D141_2 rfl).trans ?_
  refine ((x_getR D141_3).trans (gd_t h_a0)).trans (bR_c fun r1 => ?_)
  refine (x_astore1 D141_6 (ls' := [.ref a0, .int (0 : Int32), .ref r1, eU, eU, eU, eU]) rfl rfl).trans ?_
  refine (x_aload1 D141_7 rfl).trans ?_
  refine (x_alen D141_8).trans (gl_c ?_)
  refine (x_istore1 D141_9 (ls' := [.ref a0, .int (0 : Int32), .ref r1, .int ((aln m r1).toInt32), eU, eU, eU]) rfl rfl).trans ?_
  refine (x_iconst D141_10 (k := 0) (by decide)).trans ?_
  refine (x_istore2 D141_11 (ls' := [.ref a0, .int (0 : Int32), .ref r1, .int ((aln m r1).toInt32), .int (0 : Int32), eU, eU]) rfl rfl).trans ?_
  rfl
theorem Ai_bearings_13_e (d : Nat) (a0 : Nat) (x1 : Int32) (a2 : Nat) (x3 : Int32) (x4 : Int32) (w5 : Value) (m : eM) (h_a0 : kd a0 = 0) : Ai_bearings_13 d a0 x1 a2 x3 x4 w5 m = if x3 ≤ x4 then (yI x1 m) else (ga m a2 21 x4 (if (lg_cmp (gL m a2 x4.toNatClampNeg) (0 : Int64)) = 0 then (Ai_bearings_13 d a0 (x1 + (0 : Int32)) a2 x3 (x4 + (1 : Int32)) (.long (gL m a2 x4.toNatClampNeg)) m) else (Ai_bearings_13 d a0 (x1 + (1 : Int32)) a2 x3 (x4 + (1 : Int32)) (.long (gL m a2 x4.toNatClampNeg)) m))) := by
  unfold Ai_bearings_13
  refine (x_iload2 D141_13 rfl).trans ?_
  refine (x_iload1 D141_15 rfl).trans ?_
  refine (x_cge D141_16).trans (i_c ?_ ?_)
  · refine (x_iload1 D141_46 rfl).trans ?_
    exact x_iret D141_47 M141.2.2.1
  · refine (x_aload1 D141_19 rfl).trans ?_
    refine (x_iload2 D141_20 rfl).trans ?_
    refine (x_laload D141_22).trans (ga_c ?_)
    refine (x_lstore2 D141_23 (ls' := [.ref a0, .int x1, .ref a2, .int x3, .int x4, .long (gL m a2 x4.toNatClampNeg), eU]) rfl rfl).trans ?_
    refine (x_iload1 D141_25 rfl).trans ?_
    refine (x_lload2 D141_26 rfl).trans ?_
    refine (x_lconst0 D141_28).trans ?_
    refine (x_lcmp D141_29).trans ?_
    refine (x_ifeq D141_30).trans (i_c ?_ ?_)
    · refine (x_iconst D141_37 (k := 0) (by decide)).trans ?_
      refine (x_iadd D141_38).trans ?_
      refine (x_istore1 D141_39 (ls' := [.ref a0, .int (x1 + (0 : Int32)), .ref a2, .int x3, .int x4, .long (gL m a2 x4.toNatClampNeg), eU]) rfl rfl).trans ?_
      refine (x_iinc D141_40 rfl (k := 1) (by decide) (ls' := [.ref a0, .int (x1 + (0 : Int32)), .ref a2, .int x3, .int (x4 + (1 : Int32)), .long (gL m a2 x4.toNatClampNeg), eU]) rfl).trans ?_
      refine (x_goto D141_43).trans ?_
      rfl
    · refine (x_iconst D141_33 (k := 1) (by decide)).trans ?_
      refine (x_goto D141_34).trans ?_
      refine (x_iadd D141_38).trans ?_
      refine (x_istore1 D141_39 (ls' := [.ref a0, .int (x1 + (1 : Int32)), .ref a2, .int x3, .int x4, .long (gL m a2 x4.toNatClampNeg), eU]) rfl rfl).trans ?_
      refine (x_iinc D141_40 rfl (k := 1) (by decide) (ls' := [.ref a0, .int (x1 + (1 : Int32)), .ref a2, .int x3, .int (x4 + (1 : Int32)), .long (gL m a2 x4.toNatClampNeg), eU]) rfl).trans ?_
      refine (x_goto D141_43).trans ?_
      rfl
theorem D142_0 : decode (mB 142) 0 = .ok (.iconst 0, 1) := by decide +kernel
theorem D142_1 : decode (mB 142) 1 = .ok (.istore_n 1, 1) := by decide +kernel
theorem D142_2 : decode (mB 142) 2 = .ok (.aload_n 0, 1) := by decide +kernel
theorem D142_3 : GF 142 3 0 1 2 := ⟨15, true, by decide +kernel, by decide +kernel⟩
theorem D142_6 : decode (mB 142) 6 = .ok (.astore_n 2, 1) := by decide +kernel
theorem D142_7 : decode (mB 142) 7 = .ok (.aload_n 2, 1) := by decide +kernel
theorem D142_8 : decode (mB 142) 8 = .ok (.arraylength, 1) := by decide +kernel
theorem D142_9 : decode (mB 142) 9 = .ok (.istore_n 3, 1) := by decide +kernel
theorem D142_10 : decode (mB 142) 10 = .ok (.iconst 0, 1) := by decide +kernel
theorem D142_11 : decode (mB 142) 11 = .ok (.istore 4, 2) := by decide +kernel
theorem D142_13 : decode (mB 142) 13 = .ok (.iload 4, 2) := by decide +kernel
theorem D142_15 : decode (mB 142) 15 = .ok (.iload_n 3, 1) := by decide +kernel
theorem D142_16 : BR 142 16 (.if_icmp .ge 25) (25) 41 := ⟨by decide +kernel, by decide, by decide⟩
theorem D142_41 : decode (mB 142) 41 = .ok (.iload_n 1, 1) := by decide +kernel
theorem D142_42 : decode (mB 142) 42 = .ok (.ireturn, 1) := by decide +kernel
theorem D142_19 : decode (mB 142) 19 = .ok (.aload_n 2, 1) := by decide +kernel
theorem D142_20 : decode (mB 142) 20 = .ok (.iload 4, 2) := by decide +kernel
theorem D142_22 : decode (mB 142) 22 = .ok (.laload, 1) := by decide +kernel
theorem D142_23 : decode (mB 142) 23 = .ok (.lstore 5, 2) := by decide +kernel
theorem D142_25 : decode (mB 142) 25 = .ok (.iload_n 1, 1) := by decide +kernel
theorem D142_26 : decode (mB 142) 26 = .ok (.lload 5, 2) := by decide +kernel
theorem D142_28 : CS 142 28 119 2 := ⟨.invokestatic 68, by decide +kernel, by decide +kernel, by decide +kernel, by decide⟩
theorem D142_31 : MA 142 31 0 := ⟨74, by decide +kernel, by decide +kernel, by decide +kernel⟩
theorem D142_34 : decode (mB 142) 34 = .ok (.istore_n 1, 1) := by decide +kernel
theorem D142_35 : decode (mB 142) 35 = .ok (.iinc 4 1, 3) := by decide +kernel
theorem D142_38 : BR 142 38 (.goto (-25)) (-25) 13 := ⟨by decide +kernel, by decide, by decide⟩
theorem Ai_largest_e (d : Nat) (a0 : Nat) (m : eM) (h_a0 : kd a0 = 0) : Ai_largest (d + 1) a0 m = bR (gR m a0 1) fun r1 => gl r1 (Ai_largest_13 (d + 1) a0 (0 : Int32) r1 ((aln m r1).toInt32) (0 : Int32) eU m) := by
  unfold Ai_largest
  refine (x_iconst D142_0 (k := 0) (by decide)).trans ?_
  refine (x_istore1 D142_1 (ls' := [.ref a0, .int (0 : Int32), eU, eU, eU, eU, eU]) rfl rfl).trans ?_
  refine (x_aload1 D142_2 rfl).trans ?_
  refine ((x_getR D142_3).trans (gd_t h_a0)).trans (bR_c fun r1 => ?_)
  refine (x_astore1 D142_6 (ls' := [.ref a0, .int (0 : Int32), .ref r1, eU, eU, eU, eU]) rfl rfl).trans ?_
  refine (x_aload1 D142_7 rfl).trans ?_
  refine (x_alen D142_8).trans (gl_c ?_)
  refine (x_istore1 D142_9 (ls' := [.ref a0, .int (0 : Int32), .ref r1, .int ((aln m r1).toInt32), eU, eU, eU]) rfl rfl).trans ?_
  refine (x_iconst D142_10 (k := 0) (by decide)).trans ?_
  refine (x_istore2 D142_11 (ls' := [.ref a0, .int (0 : Int32), .ref r1, .int ((aln m r1).toInt32), .int (0 : Int32), eU, eU]) rfl rfl).trans ?_
  rfl
theorem Ai_largest_13_e (d : Nat) (a0 : Nat) (x1 : Int32) (a2 : Nat) (x3 : Int32) (x4 : Int32) (w5 : Value) (m : eM) (h_a0 : kd a0 = 0) : Ai_largest_13 (d + 1) a0 x1 a2 x3 x4 w5 m = if x3 ≤ x4 then (yI x1 m) else (ga m a2 21 x4 (bI (Lg_bitCount d (gL m a2 x4.toNatClampNeg) m) fun v2 m1 => Ai_largest_13 (d + 1) a0 (iMax x1 v2) a2 x3 (x4 + (1 : Int32)) (.long (gL m a2 x4.toNatClampNeg)) m1)) := by
  unfold Ai_largest_13
  refine (x_iload2 D142_13 rfl).trans ?_
  refine (x_iload1 D142_15 rfl).trans ?_
  refine (x_cge D142_16).trans (i_c ?_ ?_)
  · refine (x_iload1 D142_41 rfl).trans ?_
    exact x_iret D142_42 M142.2.2.1
  · refine (x_aload1 D142_19 rfl).trans ?_
    refine (x_iload2 D142_20 rfl).trans ?_
    refine (x_laload D142_22).trans (ga_c ?_)
    refine (x_lstore2 D142_23 (ls' := [.ref a0, .int x1, .ref a2, .int x3, .int x4, .long (gL m a2 x4.toNatClampNeg), eU]) rfl rfl).trans ?_
    refine (x_iload1 D142_25 rfl).trans ?_
    refine (x_lload2 D142_26 rfl).trans ?_
    refine (x_cI D142_28 M119 (fun z => by cases z) (I119 _) rfl rfl (ok_s M119 (I119 _) rfl rfl)).trans (bI_c fun v2 m1 => ?_)
    refine (x_max D142_31 rfl).trans ?_
    refine (x_istore1 D142_34 (ls' := [.ref a0, .int (iMax x1 v2), .ref a2, .int x3, .int x4, .long (gL m a2 x4.toNatClampNeg), eU]) rfl rfl).trans ?_
    refine (x_iinc D142_35 rfl (k := 1) (by decide) (ls' := [.ref a0, .int (iMax x1 v2), .ref a2, .int x3, .int (x4 + (1 : Int32)), .long (gL m a2 x4.toNatClampNeg), eU]) rfl).trans ?_
    refine (x_goto D142_38).trans ?_
    rfl
theorem D147_0 : decode (mB 147) 0 = .ok (.aload_n 0, 1) := by decide +kernel
theorem D147_1 : decode (mB 147) 1 = .ok (.aload_n 1, 1) := by decide +kernel
theorem D147_2 : GF 147 2 7 5 0 := ⟨28, false, by decide +kernel, by decide +kernel⟩
theorem D147_5 : decode (mB 147) 5 = .ok (.bipush 31, 2) := by decide +kernel
theorem D147_7 : MA 147 7 1 := ⟨40, by decide +kernel, by decide +kernel, by decide +kernel⟩
theorem D147_10 : PF 147 10 7 5 0 := ⟨28, false, by decide +kernel, by decide +kernel, by decide +kernel, by decide⟩
theorem D147_13 : decode (mB 147) 13 = .ok (.iconst 0, 1) := by decide +kernel
theorem D147_14 : decode (mB 147) 14 = .ok (.istore_n 2, 1) := by decide +kernel
theorem D147_15 : decode (mB 147) 15 = .ok (.iload_n 2, 1) := by decide +kernel
theorem D147_16 : decode (mB 147) 16 = .ok (.aload_n 0, 1) := by decide +kernel
theorem D147_17 : GF 147 17 7 5 0 := ⟨28, false, by decide +kernel, by decide +kernel⟩
theorem D147_20 : BR 147 20 (.if_icmp .ge 16) (16) 36 := ⟨by decide +kernel, by decide, by decide⟩
theorem D147_36 : decode (mB 147) 36 = .ok (.return_, 1) := by decide +kernel
theorem D147_23 : decode (mB 147) 23 = .ok (.aload_n 0, 1) := by decide +kernel
theorem D147_24 : decode (mB 147) 24 = .ok (.iload_n 2, 1) := by decide +kernel
theorem D147_25 : decode (mB 147) 25 = .ok (.aload_n 1, 1) := by decide +kernel
theorem D147_26 : decode (mB 147) 26 = .ok (.iload_n 2, 1) := by decide +kernel
theorem D147_27 : CS 147 27 148 0 := ⟨.invokevirtual 60, by decide +kernel, by decide +kernel, by decide +kernel, by decide⟩
theorem D147_30 : decode (mB 147) 30 = .ok (.iinc 2 1, 3) := by decide +kernel
theorem D147_33 : BR 147 33 (.goto (-18)) (-18) 15 := ⟨by decide +kernel, by decide, by decide⟩
theorem Tk_copy_e (d : Nat) (a0 : Nat) (a1 : Nat) (m : eM) (h_a0 : kd a0 = 7) (h_a1 : kd a1 = 7) : Tk_copy (d + 1) a0 a1 m = mI m a0 5 (iMin (gI m a1 5) (31 : Int32)) fun m1 => Tk_copy_15 (d + 1) a0 a1 (0 : Int32) m1 := by
  unfold Tk_copy
  refine (x_aload1 D147_0 rfl).trans ?_
  refine (x_aload1 D147_1 rfl).trans ?_
  refine ((x_getI D147_2).trans (gd_t h_a1)).trans ?_
  refine (x_bipush D147_5 (k := 31) (by decide)).trans ?_
  refine (x_min D147_7 rfl).trans ?_
  refine (x_putI D147_10 h_a0).trans ?_
  refine mI_i (fun m1 => X (d + 1) 147 13 [.ref a0, .ref a1, eU] [] m1) _ ?_
  intro m1
  refine (x_iconst D147_13 (k := 0) (by decide)).trans ?_
  refine (x_istore1 D147_14 (ls' := [.ref a0, .ref a1, .int (0 : Int32)]) rfl rfl).trans ?_
  rfl
theorem Tk_copy_15_e (d : Nat) (a0 : Nat) (a1 : Nat) (x2 : Int32) (m : eM) (h_a0 : kd a0 = 7) (h_a1 : kd a1 = 7) : Tk_copy_15 (d + 1) a0 a1 x2 m = if (gI m a0 5) ≤ x2 then (yV m) else (bV (Tk_setFrom d a0 x2 a1 x2 m) fun m1 => Tk_copy_15 (d + 1) a0 a1 (x2 + (1 : Int32)) m1) := by
  unfold Tk_copy_15
  refine (x_iload1 D147_15 rfl).trans ?_
  refine (x_aload1 D147_16 rfl).trans ?_
  refine ((x_getI D147_17).trans (gd_t h_a0)).trans ?_
  refine (x_cge D147_20).trans (i_c ?_ ?_)
  · exact x_vret D147_36 M147.2.2.1
  · refine (x_aload1 D147_23 rfl).trans ?_
    refine (x_iload1 D147_24 rfl).trans ?_
    refine (x_aload1 D147_25 rfl).trans ?_
    refine (x_iload1 D147_26 rfl).trans ?_
    refine (x_cV D147_27 M148  (I148 _ _ _ _) rfl rfl (ok_i M148 (I148 _ _ _ _) rfl rfl h_a0)).trans (bV_c fun m1 => ?_)
    refine (x_iinc D147_30 rfl (k := 1) (by decide) (ls' := [.ref a0, .ref a1, .int (x2 + (1 : Int32))]) rfl).trans ?_
    refine (x_goto D147_33).trans ?_
    rfl
theorem D148_0 : decode (mB 148) 0 = .ok (.aload_n 0, 1) := by decide +kernel
theorem D148_1 : decode (mB 148) 1 = .ok (.iload_n 1, 1) := by decide +kernel
theorem D148_2 : decode (mB 148) 2 = .ok (.aload_n 2, 1) := by decide +kernel
theorem D148_3 : decode (mB 148) 3 = .ok (.iload_n 3, 1) := by decide +kernel
theorem D148_4 : CS 148 4 106 0 := ⟨.invokevirtual 50, by decide +kernel, by decide +kernel, by decide +kernel, by decide⟩
theorem D148_7 : decode (mB 148) 7 = .ok (.aload_n 2, 1) := by decide +kernel
theorem D148_8 : decode (mB 148) 8 = .ok (.iload_n 3, 1) := by decide +kernel
theorem D148_9 : CS 148 9 72 0 := ⟨.invokevirtual 36, by decide +kernel, by decide +kernel, by decide +kernel, by decide⟩
theorem D148_12 : decode (mB 148) 12 = .ok (.aload_n 2, 1) := by decide +kernel
theorem D148_13 : decode (mB 148) 13 = .ok (.iload_n 3, 1) := by decide +kernel
theorem D148_14 : CS 148 14 115 0 := ⟨.invokevirtual 53, by decide +kernel, by decide +kernel, by decide +kernel, by decide⟩
theorem D148_17 : decode (mB 148) 17 = .ok (.aload_n 2, 1) := by decide +kernel
theorem D148_18 : decode (mB 148) 18 = .ok (.iload_n 3, 1) := by decide +kernel
theorem D148_19 : decode (mB 148) 19 = .ok (.iconst 0, 1) := by decide +kernel
theorem D148_20 : CS 148 20 105 0 := ⟨.invokevirtual 56, by decide +kernel, by decide +kernel, by decide +kernel, by decide⟩
theorem D148_23 : decode (mB 148) 23 = .ok (.aload_n 2, 1) := by decide +kernel
theorem D148_24 : decode (mB 148) 24 = .ok (.iload_n 3, 1) := by decide +kernel
theorem D148_25 : decode (mB 148) 25 = .ok (.iconst 1, 1) := by decide +kernel
theorem D148_26 : CS 148 26 105 0 := ⟨.invokevirtual 56, by decide +kernel, by decide +kernel, by decide +kernel, by decide⟩
theorem D148_29 : CS 148 29 76 0 := ⟨.invokevirtual 46, by decide +kernel, by decide +kernel, by decide +kernel, by decide⟩
theorem D148_32 : decode (mB 148) 32 = .ok (.return_, 1) := by decide +kernel
theorem Tk_setFrom_e (d : Nat) (a0 : Nat) (x1 : Int32) (a2 : Nat) (x3 : Int32) (m : eM) (h_a0 : kd a0 = 7) (h_a2 : kd a2 = 7) : Tk_setFrom (d + 1) a0 x1 a2 x3 m = bI (Tk_speaker d a2 x3 m) fun v2 m1 => bI (Tk_minute d a2 x3 m1) fun v4 m3 => bL (Tk_so d a2 x3 m3) fun v6 m5 => bL (Tk_lies d a2 x3 (0 : Int32) m5) fun v8 m7 => bL (Tk_lies d a2 x3 (1 : Int32) m7) fun v10 m9 => bV (Tk_set d a0 x1 v2 v4 v6 v8 v10 m9) fun m11 => yV m11 := by
  unfold Tk_setFrom
  refine (x_aload1 D148_0 rfl).trans ?_
  refine (x_iload1 D148_1 rfl).trans ?_
  refine (x_aload1 D148_2 rfl).trans ?_
  refine (x_iload1 D148_3 rfl).trans ?_
  refine (x_cI D148_4 M106 (fun z => by cases z) (I106 _ _) rfl rfl (ok_i M106 (I106 _ _) rfl rfl h_a2)).trans (bI_c fun v2 m1 => ?_)
  refine (x_aload1 D148_7 rfl).trans ?_
  refine (x_iload1 D148_8 rfl).trans ?_
  refine (x_cI D148_9 M72 (fun z => by cases z) (I72 _ _) rfl rfl (ok_i M72 (I72 _ _) rfl rfl h_a2)).trans (bI_c fun v4 m3 => ?_)
  refine (x_aload1 D148_12 rfl).trans ?_
  refine (x_iload1 D148_13 rfl).trans ?_
  refine (x_cL D148_14 M115  (I115 _ _) rfl rfl (ok_i M115 (I115 _ _) rfl rfl h_a2)).trans (bL_c fun v6 m5 => ?_)
  refine (x_aload1 D148_17 rfl).trans ?_
  refine (x_iload1 D148_18 rfl).trans ?_
  refine (x_iconst D148_19 (k := 0) (by decide)).trans ?_
  refine (x_cL D148_20 M105  (I105 _ _ _) rfl rfl (ok_i M105 (I105 _ _ _) rfl rfl h_a2)).trans (bL_c fun v8 m7 => ?_)
  refine (x_aload1 D148_23 rfl).trans ?_
  refine (x_iload1 D148_24 rfl).trans ?_
  refine (x_iconst D148_25 (k := 1) (by decide)).trans ?_
  refine (x_cL D148_26 M105  (I105 _ _ _) rfl rfl (ok_i M105 (I105 _ _ _) rfl rfl h_a2)).trans (bL_c fun v10 m9 => ?_)
  refine (x_cV D148_29 M76  (I76 _ _ _ _ _ _ _) rfl rfl (ok_i M76 (I76 _ _ _ _ _ _ _) rfl rfl h_a0)).trans (bV_c fun m11 => ?_)
  exact x_vret D148_32 M148.2.2.1
theorem D149_0 : decode (mB 149) 0 = .ok (.aload_n 0, 1) := by decide +kernel
theorem D149_1 : GF 149 1 0 1 2 := ⟨15, true, by decide +kernel, by decide +kernel⟩
theorem D149_4 : decode (mB 149) 4 = .ok (.astore_n 3, 1) := by decide +kernel
theorem D149_5 : decode (mB 149) 5 = .ok (.aload_n 3, 1) := by decide +kernel
theorem D149_6 : decode (mB 149) 6 = .ok (.arraylength, 1) := by decide +kernel
theorem D149_7 : decode (mB 149) 7 = .ok (.istore 4, 2) := by decide +kernel
theorem D149_9 : decode (mB 149) 9 = .ok (.iconst 0, 1) := by decide +kernel
theorem D149_10 : decode (mB 149) 10 = .ok (.istore 5, 2) := by decide +kernel
theorem D149_12 : decode (mB 149) 12 = .ok (.iload 5, 2) := by decide +kernel
theorem D149_14 : decode (mB 149) 14 = .ok (.iload 4, 2) := by decide +kernel
theorem D149_16 : BR 149 16 (.if_icmp .ge 27) (27) 43 := ⟨by decide +kernel, by decide, by decide⟩
theorem D149_43 : decode (mB 149) 43 = .ok (.iconst 1, 1) := by decide +kernel
theorem D149_44 : decode (mB 149) 44 = .ok (.ireturn, 1) := by decide +kernel
theorem D149_19 : decode (mB 149) 19 = .ok (.aload_n 3, 1) := by decide +kernel
theorem D149_20 : decode (mB 149) 20 = .ok (.iload 5, 2) := by decide +kernel
theorem D149_22 : decode (mB 149) 22 = .ok (.laload, 1) := by decide +kernel
theorem D149_23 : decode (mB 149) 23 = .ok (.lstore 6, 2) := by decide +kernel
theorem D149_25 : decode (mB 149) 25 = .ok (.lload 6, 2) := by decide +kernel
theorem D149_27 : decode (mB 149) 27 = .ok (.lload_n 1, 1) := by decide +kernel
theorem D149_28 : CS 149 28 122 2 := ⟨.invokestatic 80, by decide +kernel, by decide +kernel, by decide +kernel, by decide⟩
theorem D149_31 : decode (mB 149) 31 = .ok (.iconst 2, 1) := by decide +kernel
theorem D149_32 : BR 149 32 (.if_icmp .ne 5) (5) 37 := ⟨by decide +kernel, by decide, by decide⟩
theorem D149_37 : decode (mB 149) 37 = .ok (.iinc 5 1, 3) := by decide +kernel
theorem D149_40 : BR 149 40 (.goto (-28)) (-28) 12 := ⟨by decide +kernel, by decide, by decide⟩
theorem D149_35 : decode (mB 149) 35 = .ok (.iconst 0, 1) := by decide +kernel
theorem D149_36 : decode (mB 149) 36 = .ok (.ireturn, 1) := by decide +kernel
theorem Ai_tells_e (d : Nat) (a0 : Nat) (y1 : Int64) (m : eM) (h_a0 : kd a0 = 0) : Ai_tells (d + 1) a0 y1 m = bR (gR m a0 1) fun r1 => gl r1 (Ai_tells_12 (d + 1) a0 y1 r1 ((aln m r1).toInt32) (0 : Int32) eU m) := by
  unfold Ai_tells
  refine (x_aload1 D149_0 rfl).trans ?_
  refine ((x_getR D149_1).trans (gd_t h_a0)).trans (bR_c fun r1 => ?_)
  refine (x_astore1 D149_4 (ls' := [.ref a0, .long y1, eU, .ref r1, eU, eU, eU, eU]) rfl rfl).trans ?_
  refine (x_aload1 D149_5 rfl).trans ?_
  refine (x_alen D149_6).trans (gl_c ?_)
  refine (x_istore2 D149_7 (ls' := [.ref a0, .long y1, eU, .ref r1, .int ((aln m r1).toInt32), eU, eU, eU]) rfl rfl).trans ?_
  refine (x_iconst D149_9 (k := 0) (by decide)).trans ?_
  refine (x_istore2 D149_10 (ls' := [.ref a0, .long y1, eU, .ref r1, .int ((aln m r1).toInt32), .int (0 : Int32), eU, eU]) rfl rfl).trans ?_
  rfl
theorem Ai_tells_12_e (d : Nat) (a0 : Nat) (y1 : Int64) (a3 : Nat) (x4 : Int32) (x5 : Int32) (w6 : Value) (m : eM) (h_a0 : kd a0 = 0) : Ai_tells_12 (d + 1) a0 y1 a3 x4 x5 w6 m = if x4 ≤ x5 then (yI (1 : Int32) m) else (ga m a3 21 x5 (bI (LC_sureness d (gL m a3 x5.toNatClampNeg) y1 m) fun v2 m1 => if ¬ v2 = (2 : Int32) then (Ai_tells_12 (d + 1) a0 y1 a3 x4 (x5 + (1 : Int32)) (.long (gL m a3 x5.toNatClampNeg)) m1) else (yI (0 : Int32) m1))) := by
  unfold Ai_tells_12
  refine (x_iload2 D149_12 rfl).trans ?_
  refine (x_iload2 D149_14 rfl).trans ?_
  refine (x_cge D149_16).trans (i_c ?_ ?_)
  · refine (x_iconst D149_43 (k := 1) (by decide)).trans ?_
    exact (x_bret D149_44 M149.2.2.1).trans yB1
  · refine (x_aload1 D149_19 rfl).trans ?_
    refine (x_iload2 D149_20 rfl).trans ?_
    refine (x_laload D149_22).trans (ga_c ?_)
    refine (x_lstore2 D149_23 (ls' := [.ref a0, .long y1, eU, .ref a3, .int x4, .int x5, .long (gL m a3 x5.toNatClampNeg), eU]) rfl rfl).trans ?_
    refine (x_lload2 D149_25 rfl).trans ?_
    refine (x_lload1 D149_27 rfl).trans ?_
    refine (x_cI D149_28 M122 (fun z => by cases z) (I122 _ _) rfl rfl (ok_s M122 (I122 _ _) rfl rfl)).trans (bI_c fun v2 m1 => ?_)
    refine (x_iconst D149_31 (k := 2) (by decide)).trans ?_
    refine (x_cne D149_32).trans (i_c ?_ ?_)
    · refine (x_iinc D149_37 rfl (k := 1) (by decide) (ls' := [.ref a0, .long y1, eU, .ref a3, .int x4, .int (x5 + (1 : Int32)), .long (gL m a3 x5.toNatClampNeg), eU]) rfl).trans ?_
      refine (x_goto D149_40).trans ?_
      rfl
    · refine (x_iconst D149_35 (k := 0) (by decide)).trans ?_
      exact (x_bret D149_36 M149.2.2.1).trans yB0
theorem D151_0 : decode (mB 151) 0 = .ok (.aload_n 0, 1) := by decide +kernel
theorem D151_1 : decode (mB 151) 1 = .ok (.iconst 0, 1) := by decide +kernel
theorem D151_2 : PF 151 2 5 4 0 := ⟨25, false, by decide +kernel, by decide +kernel, by decide +kernel, by decide⟩
theorem D151_5 : decode (mB 151) 5 = .ok (.aload_n 0, 1) := by decide +kernel
theorem D151_6 : decode (mB 151) 6 = .ok (.lload 4, 2) := by decide +kernel
theorem D151_8 : PF 151 8 5 5 1 := ⟨29, false, by decide +kernel, by decide +kernel, by decide +kernel, by decide⟩
theorem D151_11 : decode (mB 151) 11 = .ok (.iconst 0, 1) := by decide +kernel
theorem D151_12 : decode (mB 151) 12 = .ok (.istore 6, 2) := by decide +kernel
theorem D151_14 : decode (mB 151) 14 = .ok (.iload 6, 2) := by decide +kernel
theorem D151_16 : decode (mB 151) 16 = .ok (.aload_n 0, 1) := by decide +kernel
theorem D151_17 : GF 151 17 5 2 2 := ⟨19, true, by decide +kernel, by decide +kernel⟩
theorem D151_20 : decode (mB 151) 20 = .ok (.arraylength, 1) := by decide +kernel
theorem D151_21 : BR 151 21 (.if_icmp .ge 29) (29) 50 := ⟨by decide +kernel, by decide, by decide⟩
theorem D151_50 : decode (mB 151) 50 = .ok (.iconst 0, 1) := by decide +kernel
theorem D151_51 : decode (mB 151) 51 = .ok (.istore 6, 2) := by decide +kernel
theorem D151_24 : decode (mB 151) 24 = .ok (.aload_n 0, 1) := by decide +kernel
theorem D151_25 : GF 151 25 5 2 2 := ⟨19, true, by decide +kernel, by decide +kernel⟩
theorem D151_28 : decode (mB 151) 28 = .ok (.iload 6, 2) := by decide +kernel
theorem D151_30 : decode (mB 151) 30 = .ok (.iload 6, 2) := by decide +kernel
theorem D151_32 : decode (mB 151) 32 = .ok (.bipush 6, 2) := by decide +kernel
theorem D151_34 : BR 151 34 (.if_icmp .ne 8) (8) 42 := ⟨by decide +kernel, by decide, by decide⟩
theorem D151_42 : decode (mB 151) 42 = .ok (.lconst 0, 1) := by decide +kernel
theorem D151_43 : decode (mB 151) 43 = .ok (.lastore, 1) := by decide +kernel
theorem D151_44 : decode (mB 151) 44 = .ok (.iinc 6 1, 3) := by decide +kernel
theorem D151_47 : BR 151 47 (.goto (-33)) (-33) 14 := ⟨by decide +kernel, by decide, by decide⟩
theorem D151_37 : decode (mB 151) 37 = .ok (.lload 4, 2) := by decide +kernel
theorem D151_39 : BR 151 39 (.goto 4) (4) 43 := ⟨by decide +kernel, by decide, by decide⟩
theorem D151_53 : decode (mB 151) 53 = .ok (.iload 6, 2) := by decide +kernel
theorem D151_55 : decode (mB 151) 55 = .ok (.aload_n 2, 1) := by decide +kernel
theorem D151_56 : GF 151 56 6 1 2 := ⟨33, true, by decide +kernel, by decide +kernel⟩
theorem D151_59 : CS 151 59 70 0 := ⟨.invokevirtual 39, by decide +kernel, by decide +kernel, by decide +kernel, by decide⟩
theorem D151_62 : BR 151 62 (.if_icmp .ge 61) (61) 123 := ⟨by decide +kernel, by decide, by decide⟩
theorem D151_123 : decode (mB 151) 123 = .ok (.return_, 1) := by decide +kernel
theorem D151_65 : decode (mB 151) 65 = .ok (.aload_n 2, 1) := by decide +kernel
theorem D151_66 : GF 151 66 6 1 2 := ⟨33, true, by decide +kernel, by decide +kernel⟩
theorem D151_69 : decode (mB 151) 69 = .ok (.iload 6, 2) := by decide +kernel
theorem D151_71 : CS 151 71 72 0 := ⟨.invokevirtual 44, by decide +kernel, by decide +kernel, by decide +kernel, by decide⟩
theorem D151_74 : decode (mB 151) 74 = .ok (.aload_n 2, 1) := by decide +kernel
theorem D151_75 : GF 151 75 6 0 2 := ⟨48, false, by decide +kernel, by decide +kernel⟩
theorem D151_78 : decode (mB 151) 78 = .ok (.iload_n 3, 1) := by decide +kernel
theorem D151_79 : CS 151 79 103 0 := ⟨.invokevirtual 52, by decide +kernel, by decide +kernel, by decide +kernel, by decide⟩
theorem D151_82 : decode (mB 151) 82 = .ok (.iadd, 1) := by decide +kernel
theorem D151_83 : decode (mB 151) 83 = .ok (.istore 7, 2) := by decide +kernel
theorem D151_85 : decode (mB 151) 85 = .ok (.iload 7, 2) := by decide +kernel
theorem D151_87 : decode (mB 151) 87 = .ok (.sipush 1439, 3) := by decide +kernel
theorem D151_90 : BR 151 90 (.if_icmp .gt 27) (27) 117 := ⟨by decide +kernel, by decide, by decide⟩
theorem D151_117 : decode (mB 151) 117 = .ok (.iinc 6 1, 3) := by decide +kernel
theorem D151_120 : BR 151 120 (.goto (-67)) (-67) 53 := ⟨by decide +kernel, by decide, by decide⟩
theorem D151_93 : decode (mB 151) 93 = .ok (.aload_n 1, 1) := by decide +kernel
theorem D151_94 : decode (mB 151) 94 = .ok (.aload_n 2, 1) := by decide +kernel
theorem D151_95 : GF 151 95 6 1 2 := ⟨33, true, by decide +kernel, by decide +kernel⟩
theorem D151_98 : decode (mB 151) 98 = .ok (.aload_n 2, 1) := by decide +kernel
theorem D151_99 : GF 151 99 6 0 2 := ⟨48, false, by decide +kernel, by decide +kernel⟩
theorem D151_102 : decode (mB 151) 102 = .ok (.iload_n 3, 1) := by decide +kernel
theorem D151_103 : decode (mB 151) 103 = .ok (.iload 7, 2) := by decide +kernel
theorem D151_105 : decode (mB 151) 105 = .ok (.lload 4, 2) := by decide +kernel
theorem D151_107 : CS 151 107 102 0 := ⟨.invokevirtual 57, by decide +kernel, by decide +kernel, by decide +kernel, by decide⟩
theorem D151_110 : decode (mB 151) 110 = .ok (.aload_n 0, 1) := by decide +kernel
theorem D151_111 : decode (mB 151) 111 = .ok (.aload_n 1, 1) := by decide +kernel
theorem D151_112 : decode (mB 151) 112 = .ok (.iload 7, 2) := by decide +kernel
theorem D151_114 : CS 151 114 152 0 := ⟨.invokevirtual 63, by decide +kernel, by decide +kernel, by decide +kernel, by decide⟩
theorem Se_ask_e (d : Nat) (a0 : Nat) (a1 : Nat) (a2 : Nat) (x3 : Int32) (y4 : Int64) (m : eM) (h_a0 : kd a0 = 5) (h_a1 : kd a1 = 0) (h_a2 : kd a2 = 6) : Se_ask (d + 1) a0 a1 a2 x3 y4 m = mI m a0 4 (0 : Int32) fun m1 => mJ m1 a0 5 y4 fun m2 => Se_ask_14 (d + 1) a0 a1 a2 x3 y4 (0 : Int32) m2 := by
  unfold Se_ask
  refine (x_aload1 D151_0 rfl).trans ?_
  refine (x_iconst D151_1 (k := 0) (by decide)).trans ?_
  refine (x_putI D151_2 h_a0).trans ?_
  refine mI_i (fun m1 => X (d + 1) 151 5 [.ref a0, .ref a1, .ref a2, .int x3, .long y4, eU, eU, eU] [] m1) _ ?_
  intro m1
  refine (x_aload1 D151_5 rfl).trans ?_
  refine (x_lload2 D151_6 rfl).trans ?_
  refine (x_putL D151_8 h_a0).trans ?_
  refine mJ_i (fun m2 => X (d + 1) 151 11 [.ref a0, .ref a1, .ref a2, .int x3, .long y4, eU, eU, eU] [] m2) _ ?_
  intro m2
  refine (x_iconst D151_11 (k := 0) (by decide)).trans ?_
  refine (x_istore2 D151_12 (ls' := [.ref a0, .ref a1, .ref a2, .int x3, .long y4, eU, .int (0 : Int32), eU]) rfl rfl).trans ?_
  rfl
theorem Se_ask_14_e (d : Nat) (a0 : Nat) (a1 : Nat) (a2 : Nat) (x3 : Int32) (y4 : Int64) (x6 : Int32) (m : eM) (h_a0 : kd a0 = 5) (h_a1 : kd a1 = 0) (h_a2 : kd a2 = 6) : Se_ask_14 (d + 1) a0 a1 a2 x3 y4 x6 m = bR (gR m a0 2) fun r1 => gl r1 (if ((aln m r1).toInt32) ≤ x6 then (Se_ask_53 (d + 1) a0 a1 a2 x3 y4 (0 : Int32) eU m) else (bR (gR m a0 2) fun r2 => if ¬ x6 = (6 : Int32) then (gw m r2 21 x6 (mJ m r2 x6.toNatClampNeg (0 : Int64) fun m3 => Se_ask_14 (d + 1) a0 a1 a2 x3 y4 (x6 + (1 : Int32)) m3)) else (gw m r2 21 x6 (mJ m r2 x6.toNatClampNeg y4 fun m4 => Se_ask_14 (d + 1) a0 a1 a2 x3 y4 (x6 + (1 : Int32)) m4)))) := by
  unfold Se_ask_14
  refine (x_iload2 D151_14 rfl).trans ?_
  refine (x_aload1 D151_16 rfl).trans ?_
  refine ((x_getR D151_17).trans (gd_t h_a0)).trans (bR_c fun r1 => ?_)
  refine (x_alen D151_20).trans (gl_c ?_)
  refine (x_cge D151_21).trans (i_c ?_ ?_)
  · refine (x_iconst D151_50 (k := 0) (by decide)).trans ?_
    refine (x_istore2 D151_51 (ls' := [.ref a0, .ref a1, .ref a2, .int x3, .long y4, eU, .int (0 : Int32), eU]) rfl rfl).trans ?_
    rfl
  · refine (x_aload1 D151_24 rfl).trans ?_
    refine ((x_getR D151_25).trans (gd_t h_a0)).trans (bR_c fun r2 => ?_)
    refine (x_iload2 D151_28 rfl).trans ?_
    refine (x_iload2 D151_30 rfl).trans ?_
    refine (x_bipush D151_32 (k := 6) (by decide)).trans ?_
    refine (x_cne D151_34).trans (i_c ?_ ?_)
    · refine (x_lconst0 D151_42).trans ?_
      refine (x_lastore D151_43).trans (gw_c ?_)
      refine mJ_i (fun m3 => X (d + 1) 151 44 [.ref a0, .ref a1, .ref a2, .int x3, .long y4, eU, .int x6, eU] [] m3) _ ?_
      intro m3
      refine (x_iinc D151_44 rfl (k := 1) (by decide) (ls' := [.ref a0, .ref a1, .ref a2, .int x3, .long y4, eU, .int (x6 + (1 : Int32)), eU]) rfl).trans ?_
      refine (x_goto D151_47).trans ?_
      rfl
    · refine (x_lload2 D151_37 rfl).trans ?_
      refine (x_goto D151_39).trans ?_
      refine (x_lastore D151_43).trans (gw_c ?_)
      refine mJ_i (fun m4 => X (d + 1) 151 44 [.ref a0, .ref a1, .ref a2, .int x3, .long y4, eU, .int x6, eU] [] m4) _ ?_
      intro m4
      refine (x_iinc D151_44 rfl (k := 1) (by decide) (ls' := [.ref a0, .ref a1, .ref a2, .int x3, .long y4, eU, .int (x6 + (1 : Int32)), eU]) rfl).trans ?_
      refine (x_goto D151_47).trans ?_
      rfl
theorem Se_ask_53_e (d : Nat) (a0 : Nat) (a1 : Nat) (a2 : Nat) (x3 : Int32) (y4 : Int64) (x6 : Int32) (w7 : Value) (m : eM) (h_a0 : kd a0 = 5) (h_a1 : kd a1 = 0) (h_a2 : kd a2 = 6) : Se_ask_53 (d + 1) a0 a1 a2 x3 y4 x6 w7 m = bR (gR m a2 1) fun r1 => gd r1 7 (bI (Tk_size d r1 m) fun v4 m3 => if v4 ≤ x6 then (yV m3) else (bR (gR m3 a2 1) fun r5 => gd r5 7 (bI (Tk_minute d r5 x6 m3) fun v8 m7 => bR (gR m7 a2 0) fun r9 => gd r9 4 (bI (Pa_late d r9 x3 m7) fun v12 m11 => if (1439 : Int32) < (v8 + v12) then (Se_ask_53 (d + 1) a0 a1 a2 x3 y4 (x6 + (1 : Int32)) (.int (v8 + v12)) m11) else (bR (gR m11 a2 1) fun r13 => bR (gR m11 a2 0) fun r14 => bV (Ai_take d a1 r13 r14 x3 (v8 + v12) y4 m11) fun m15 => bV (Se_note d a0 a1 (v8 + v12) m15) fun m16 => Se_ask_53 (d + 1) a0 a1 a2 x3 y4 (x6 + (1 : Int32)) (.int (v8 + v12)) m16))))) := by
  unfold Se_ask_53
  refine (x_iload2 D151_53 rfl).trans ?_
  refine (x_aload1 D151_55 rfl).trans ?_
  refine ((x_getR D151_56).trans (gd_t h_a2)).trans (bR_c fun r1 => ?_)
  refine (x_cg D151_59 M70 rfl rfl).trans (gd_c fun h2 => ?_)
  refine (x_cI D151_59 M70 (fun z => by cases z) (I70 _) rfl rfl (ok_i M70 (I70 _) rfl rfl h2)).trans (bI_c fun v4 m3 => ?_)
  refine (x_cge D151_62).trans (i_c ?_ ?_)
  · exact x_vret D151_123 M151.2.2.1
  · refine (x_aload1 D151_65 rfl).trans ?_
    refine ((x_getR D151_66).trans (gd_t h_a2)).trans (bR_c fun r5 => ?_)
    refine (x_iload2 D151_69 rfl).trans ?_
    refine (x_cg D151_71 M72 rfl rfl).trans (gd_c fun h6 => ?_)
    refine (x_cI D151_71 M72 (fun z => by cases z) (I72 _ _) rfl rfl (ok_i M72 (I72 _ _) rfl rfl h6)).trans (bI_c fun v8 m7 => ?_)
    refine (x_aload1 D151_74 rfl).trans ?_
    refine ((x_getR D151_75).trans (gd_t h_a2)).trans (bR_c fun r9 => ?_)
    refine (x_iload1 D151_78 rfl).trans ?_
    refine (x_cg D151_79 M103 rfl rfl).trans (gd_c fun h10 => ?_)
    refine (x_cI D151_79 M103 (fun z => by cases z) (I103 _ _) rfl rfl (ok_i M103 (I103 _ _) rfl rfl h10)).trans (bI_c fun v12 m11 => ?_)
    refine (x_iadd D151_82).trans ?_
    refine (x_istore2 D151_83 (ls' := [.ref a0, .ref a1, .ref a2, .int x3, .long y4, eU, .int x6, .int (v8 + v12)]) rfl rfl).trans ?_
    refine (x_iload2 D151_85 rfl).trans ?_
    refine (x_sipush D151_87 (k := 1439) (by decide)).trans ?_
    refine (x_cgt D151_90).trans (i_c ?_ ?_)
    · refine (x_iinc D151_117 rfl (k := 1) (by decide) (ls' := [.ref a0, .ref a1, .ref a2, .int x3, .long y4, eU, .int (x6 + (1 : Int32)), .int (v8 + v12)]) rfl).trans ?_
      refine (x_goto D151_120).trans ?_
      rfl
    · refine (x_aload1 D151_93 rfl).trans ?_
      refine (x_aload1 D151_94 rfl).trans ?_
      refine ((x_getR D151_95).trans (gd_t h_a2)).trans (bR_c fun r13 => ?_)
      refine (x_aload1 D151_98 rfl).trans ?_
      refine ((x_getR D151_99).trans (gd_t h_a2)).trans (bR_c fun r14 => ?_)
      refine (x_iload1 D151_102 rfl).trans ?_
      refine (x_iload2 D151_103 rfl).trans ?_
      refine (x_lload2 D151_105 rfl).trans ?_
      refine (x_cV D151_107 M102  (I102 _ _ _ _ _ _) rfl rfl (ok_i M102 (I102 _ _ _ _ _ _) rfl rfl h_a1)).trans (bV_c fun m15 => ?_)
      refine (x_aload1 D151_110 rfl).trans ?_
      refine (x_aload1 D151_111 rfl).trans ?_
      refine (x_iload2 D151_112 rfl).trans ?_
      refine (x_cV D151_114 M152  (I152 _ _ _) rfl rfl (ok_i M152 (I152 _ _ _) rfl rfl h_a0)).trans (bV_c fun m16 => ?_)
      refine (x_iinc D151_117 rfl (k := 1) (by decide) (ls' := [.ref a0, .ref a1, .ref a2, .int x3, .long y4, eU, .int (x6 + (1 : Int32)), .int (v8 + v12)]) rfl).trans ?_
      refine (x_goto D151_120).trans ?_
      rfl
theorem D152_0 : decode (mB 152) 0 = .ok (.iconst 0, 1) := by decide +kernel
theorem D152_1 : decode (mB 152) 1 = .ok (.istore_n 3, 1) := by decide +kernel
theorem D152_2 : decode (mB 152) 2 = .ok (.iconst 0, 1) := by decide +kernel
theorem D152_3 : decode (mB 152) 3 = .ok (.istore 4, 2) := by decide +kernel
theorem D152_5 : decode (mB 152) 5 = .ok (.iload 4, 2) := by decide +kernel
theorem D152_7 : decode (mB 152) 7 = .ok (.aload_n 0, 1) := by decide +kernel
theorem D152_8 : GF 152 8 5 2 2 := ⟨19, true, by decide +kernel, by decide +kernel⟩
theorem D152_11 : decode (mB 152) 11 = .ok (.arraylength, 1) := by decide +kernel
theorem D152_12 : BR 152 12 (.if_icmp .ge 47) (47) 59 := ⟨by decide +kernel, by decide, by decide⟩
theorem D152_59 : decode (mB 152) 59 = .ok (.iload_n 3, 1) := by decide +kernel
theorem D152_60 : BR 152 60 (.ifCond .eq 22) (22) 82 := ⟨by decide +kernel, by decide, by decide⟩
theorem D152_82 : decode (mB 152) 82 = .ok (.return_, 1) := by decide +kernel
theorem D152_63 : decode (mB 152) 63 = .ok (.aload_n 0, 1) := by decide +kernel
theorem D152_64 : GF 152 64 5 4 0 := ⟨25, false, by decide +kernel, by decide +kernel⟩
theorem D152_67 : BR 152 67 (.ifCond .lt 15) (15) 82 := ⟨by decide +kernel, by decide, by decide⟩
theorem D152_70 : decode (mB 152) 70 = .ok (.aload_n 0, 1) := by decide +kernel
theorem D152_71 : GF 152 71 5 4 0 := ⟨25, false, by decide +kernel, by decide +kernel⟩
theorem D152_74 : decode (mB 152) 74 = .ok (.aload_n 0, 1) := by decide +kernel
theorem D152_75 : GF 152 75 5 0 2 := ⟨9, true, by decide +kernel, by decide +kernel⟩
theorem D152_78 : decode (mB 152) 78 = .ok (.arraylength, 1) := by decide +kernel
theorem D152_79 : BR 152 79 (.if_icmp .lt 4) (4) 83 := ⟨by decide +kernel, by decide, by decide⟩
theorem D152_83 : decode (mB 152) 83 = .ok (.aload_n 0, 1) := by decide +kernel
theorem D152_84 : GF 152 84 5 0 2 := ⟨9, true, by decide +kernel, by decide +kernel⟩
theorem D152_87 : decode (mB 152) 87 = .ok (.aload_n 0, 1) := by decide +kernel
theorem D152_88 : GF 152 88 5 4 0 := ⟨25, false, by decide +kernel, by decide +kernel⟩
theorem D152_91 : decode (mB 152) 91 = .ok (.iload_n 2, 1) := by decide +kernel
theorem D152_92 : decode (mB 152) 92 = .ok (.iastore, 1) := by decide +kernel
theorem D152_93 : decode (mB 152) 93 = .ok (.iconst 0, 1) := by decide +kernel
theorem D152_94 : decode (mB 152) 94 = .ok (.istore 4, 2) := by decide +kernel
theorem D152_15 : decode (mB 152) 15 = .ok (.iload_n 3, 1) := by decide +kernel
theorem D152_16 : decode (mB 152) 16 = .ok (.aload_n 0, 1) := by decide +kernel
theorem D152_17 : GF 152 17 5 2 2 := ⟨19, true, by decide +kernel, by decide +kernel⟩
theorem D152_20 : decode (mB 152) 20 = .ok (.iload 4, 2) := by decide +kernel
theorem D152_22 : decode (mB 152) 22 = .ok (.laload, 1) := by decide +kernel
theorem D152_23 : decode (mB 152) 23 = .ok (.aload_n 1, 1) := by decide +kernel
theorem D152_24 : decode (mB 152) 24 = .ok (.iload 4, 2) := by decide +kernel
theorem D152_26 : CS 152 26 153 0 := ⟨.invokevirtual 67, by decide +kernel, by decide +kernel, by decide +kernel, by decide⟩
theorem D152_29 : decode (mB 152) 29 = .ok (.lcmp, 1) := by decide +kernel
theorem D152_30 : BR 152 30 (.ifCond .eq 7) (7) 37 := ⟨by decide +kernel, by decide, by decide⟩
theorem D152_37 : decode (mB 152) 37 = .ok (.iconst 0, 1) := by decide +kernel
theorem D152_38 : decode (mB 152) 38 = .ok (.ior, 1) := by decide +kernel
theorem D152_39 : decode (mB 152) 39 = .ok (.istore_n 3, 1) := by decide +kernel
theorem D152_40 : decode (mB 152) 40 = .ok (.aload_n 0, 1) := by decide +kernel
theorem D152_41 : GF 152 41 5 2 2 := ⟨19, true, by decide +kernel, by decide +kernel⟩
theorem D152_44 : decode (mB 152) 44 = .ok (.iload 4, 2) := by decide +kernel
theorem D152_46 : decode (mB 152) 46 = .ok (.aload_n 1, 1) := by decide +kernel
theorem D152_47 : decode (mB 152) 47 = .ok (.iload 4, 2) := by decide +kernel
theorem D152_49 : CS 152 49 153 0 := ⟨.invokevirtual 67, by decide +kernel, by decide +kernel, by decide +kernel, by decide⟩
theorem D152_52 : decode (mB 152) 52 = .ok (.lastore, 1) := by decide +kernel
theorem D152_53 : decode (mB 152) 53 = .ok (.iinc 4 1, 3) := by decide +kernel
theorem D152_56 : BR 152 56 (.goto (-51)) (-51) 5 := ⟨by decide +kernel, by decide, by decide⟩
theorem D152_33 : decode (mB 152) 33 = .ok (.iconst 1, 1) := by decide +kernel
theorem D152_34 : BR 152 34 (.goto 4) (4) 38 := ⟨by decide +kernel, by decide, by decide⟩
theorem D152_96 : decode (mB 152) 96 = .ok (.iload 4, 2) := by decide +kernel
theorem D152_98 : decode (mB 152) 98 = .ok (.bipush 7, 2) := by decide +kernel
theorem D152_100 : BR 152 100 (.if_icmp .ge 48) (48) 148 := ⟨by decide +kernel, by decide, by decide⟩
theorem D152_148 : decode (mB 152) 148 = .ok (.aload_n 0, 1) := by decide +kernel
theorem D152_149 : decode (mB 152) 149 = .ok (.dup, 1) := by decide +kernel
theorem D152_150 : GF 152 150 5 4 0 := ⟨25, false, by decide +kernel, by decide +kernel⟩
theorem D152_153 : decode (mB 152) 153 = .ok (.iconst 1, 1) := by decide +kernel
theorem D152_154 : decode (mB 152) 154 = .ok (.iadd, 1) := by decide +kernel
theorem D152_155 : PF 152 155 5 4 0 := ⟨25, false, by decide +kernel, by decide +kernel, by decide +kernel, by decide⟩
theorem D152_158 : decode (mB 152) 158 = .ok (.return_, 1) := by decide +kernel
theorem D152_103 : decode (mB 152) 103 = .ok (.aload_n 0, 1) := by decide +kernel
theorem D152_104 : GF 152 104 5 4 0 := ⟨25, false, by decide +kernel, by decide +kernel⟩
theorem D152_107 : decode (mB 152) 107 = .ok (.bipush 7, 2) := by decide +kernel
theorem D152_109 : decode (mB 152) 109 = .ok (.imul, 1) := by decide +kernel
theorem D152_110 : decode (mB 152) 110 = .ok (.iload 4, 2) := by decide +kernel
theorem D152_112 : decode (mB 152) 112 = .ok (.iadd, 1) := by decide +kernel
theorem D152_113 : decode (mB 152) 113 = .ok (.aload_n 0, 1) := by decide +kernel
theorem D152_114 : GF 152 114 5 1 2 := ⟨15, true, by decide +kernel, by decide +kernel⟩
theorem D152_117 : decode (mB 152) 117 = .ok (.arraylength, 1) := by decide +kernel
theorem D152_118 : BR 152 118 (.if_icmp .ge 30) (30) 148 := ⟨by decide +kernel, by decide, by decide⟩
theorem D152_121 : decode (mB 152) 121 = .ok (.aload_n 0, 1) := by decide +kernel
theorem D152_122 : GF 152 122 5 1 2 := ⟨15, true, by decide +kernel, by decide +kernel⟩
theorem D152_125 : decode (mB 152) 125 = .ok (.aload_n 0, 1) := by decide +kernel
theorem D152_126 : GF 152 126 5 4 0 := ⟨25, false, by decide +kernel, by decide +kernel⟩
theorem D152_129 : decode (mB 152) 129 = .ok (.bipush 7, 2) := by decide +kernel
theorem D152_131 : decode (mB 152) 131 = .ok (.imul, 1) := by decide +kernel
theorem D152_132 : decode (mB 152) 132 = .ok (.iload 4, 2) := by decide +kernel
theorem D152_134 : decode (mB 152) 134 = .ok (.iadd, 1) := by decide +kernel
theorem D152_135 : decode (mB 152) 135 = .ok (.aload_n 1, 1) := by decide +kernel
theorem D152_136 : decode (mB 152) 136 = .ok (.iload 4, 2) := by decide +kernel
theorem D152_138 : CS 152 138 154 0 := ⟨.invokevirtual 71, by decide +kernel, by decide +kernel, by decide +kernel, by decide⟩
theorem D152_141 : decode (mB 152) 141 = .ok (.lastore, 1) := by decide +kernel
theorem D152_142 : decode (mB 152) 142 = .ok (.iinc 4 1, 3) := by decide +kernel
theorem D152_145 : BR 152 145 (.goto (-49)) (-49) 96 := ⟨by decide +kernel, by decide, by decide⟩
theorem Se_note_e (d : Nat) (a0 : Nat) (a1 : Nat) (x2 : Int32) (m : eM) (h_a0 : kd a0 = 5) (h_a1 : kd a1 = 0) : Se_note (d + 1) a0 a1 x2 m = Se_note_5 (d + 1) a0 a1 x2 (0 : Int32) (0 : Int32) m := by
  unfold Se_note
  refine (x_iconst D152_0 (k := 0) (by decide)).trans ?_
  refine (x_istore1 D152_1 (ls' := [.ref a0, .ref a1, .int x2, .int (0 : Int32), eU]) rfl rfl).trans ?_
  refine (x_iconst D152_2 (k := 0) (by decide)).trans ?_
  refine (x_istore2 D152_3 (ls' := [.ref a0, .ref a1, .int x2, .int (0 : Int32), .int (0 : Int32)]) rfl rfl).trans ?_
  rfl
theorem Se_note_5_e (d : Nat) (a0 : Nat) (a1 : Nat) (x2 : Int32) (x3 : Int32) (x4 : Int32) (m : eM) (h_a0 : kd a0 = 5) (h_a1 : kd a1 = 0) : Se_note_5 (d + 1) a0 a1 x2 x3 x4 m = bR (gR m a0 2) fun r1 => gl r1 (if ((aln m r1).toInt32) ≤ x4 then (if x3 = 0 then (yV m) else (if (gI m a0 4) < 0 then (yV m) else (bR (gR m a0 0) fun r2 => gl r2 (if (gI m a0 4) < ((aln m r2).toInt32) then (bR (gR m a0 0) fun r3 => gw m r3 20 (gI m a0 4) (mI m r3 (gI m a0 4).toNatClampNeg x2 fun m4 => Se_note_96 (d + 1) a0 a1 x2 x3 (0 : Int32) m4)) else (yV m))))) else (bR (gR m a0 2) fun r5 => ga m r5 21 x4 (bL (Ai_at d a1 x4 m) fun v7 m6 => if (lg_cmp (gL m r5 x4.toNatClampNeg) v7) = 0 then (bR (gR m6 a0 2) fun r8 => bL (Ai_at d a1 x4 m6) fun v10 m9 => gw m9 r8 21 x4 (mJ m9 r8 x4.toNatClampNeg v10 fun m11 => Se_note_5 (d + 1) a0 a1 x2 (x3 ||| (0 : Int32)) (x4 + (1 : Int32)) m11)) else (bR (gR m6 a0 2) fun r12 => bL (Ai_at d a1 x4 m6) fun v14 m13 => gw m13 r12 21 x4 (mJ m13 r12 x4.toNatClampNeg v14 fun m15 => Se_note_5 (d + 1) a0 a1 x2 (x3 ||| (1 : Int32)) (x4 + (1 : Int32)) m15))))) := by
  unfold Se_note_5
  refine (x_iload2 D152_5 rfl).trans ?_
  refine (x_aload1 D152_7 rfl).trans ?_
  refine ((x_getR D152_8).trans (gd_t h_a0)).trans (bR_c fun r1 => ?_)
  refine (x_alen D152_11).trans (gl_c ?_)
  refine (x_cge D152_12).trans (i_c ?_ ?_)
  · refine (x_iload1 D152_59 rfl).trans ?_
    refine (x_ifeq D152_60).trans (i_c ?_ ?_)
    · exact x_vret D152_82 M152.2.2.1
    · refine (x_aload1 D152_63 rfl).trans ?_
      refine ((x_getI D152_64).trans (gd_t h_a0)).trans ?_
      refine (x_iflt D152_67).trans (i_c ?_ ?_)
      · exact x_vret D152_82 M152.2.2.1
      · refine (x_aload1 D152_70 rfl).trans ?_
        refine ((x_getI D152_71).trans (gd_t h_a0)).trans ?_
        refine (x_aload1 D152_74 rfl).trans ?_
        refine ((x_getR D152_75).trans (gd_t h_a0)).trans (bR_c fun r2 => ?_)
        refine (x_alen D152_78).trans (gl_c ?_)
        refine (x_clt D152_79).trans (i_c ?_ ?_)
        · refine (x_aload1 D152_83 rfl).trans ?_
          refine ((x_getR D152_84).trans (gd_t h_a0)).trans (bR_c fun r3 => ?_)
          refine (x_aload1 D152_87 rfl).trans ?_
          refine ((x_getI D152_88).trans (gd_t h_a0)).trans ?_
          refine (x_iload1 D152_91 rfl).trans ?_
          refine (x_iastore D152_92).trans (gw_c ?_)
          refine mI_i (fun m4 => X (d + 1) 152 93 [.ref a0, .ref a1, .int x2, .int x3, .int x4] [] m4) _ ?_
          intro m4
          refine (x_iconst D152_93 (k := 0) (by decide)).trans ?_
          refine (x_istore2 D152_94 (ls' := [.ref a0, .ref a1, .int x2, .int x3, .int (0 : Int32)]) rfl rfl).trans ?_
          rfl
        · exact x_vret D152_82 M152.2.2.1
  · refine (x_iload1 D152_15 rfl).trans ?_
    refine (x_aload1 D152_16 rfl).trans ?_
    refine ((x_getR D152_17).trans (gd_t h_a0)).trans (bR_c fun r5 => ?_)
    refine (x_iload2 D152_20 rfl).trans ?_
    refine (x_laload D152_22).trans (ga_c ?_)
    refine (x_aload1 D152_23 rfl).trans ?_
    refine (x_iload2 D152_24 rfl).trans ?_
    refine (x_cL D152_26 M153  (I153 _ _) rfl rfl (ok_i M153 (I153 _ _) rfl rfl h_a1)).trans (bL_c fun v7 m6 => ?_)
    refine (x_lcmp D152_29).trans ?_
    refine (x_ifeq D152_30).trans (i_c ?_ ?_)
    · refine (x_iconst D152_37 (k := 0) (by decide)).trans ?_
      refine (x_ior D152_38).trans ?_
      refine (x_istore1 D152_39 (ls' := [.ref a0, .ref a1, .int x2, .int (x3 ||| (0 : Int32)), .int x4]) rfl rfl).trans ?_
      refine (x_aload1 D152_40 rfl).trans ?_
      refine ((x_getR D152_41).trans (gd_t h_a0)).trans (bR_c fun r8 => ?_)
      refine (x_iload2 D152_44 rfl).trans ?_
      refine (x_aload1 D152_46 rfl).trans ?_
      refine (x_iload2 D152_47 rfl).trans ?_
      refine (x_cL D152_49 M153  (I153 _ _) rfl rfl (ok_i M153 (I153 _ _) rfl rfl h_a1)).trans (bL_c fun v10 m9 => ?_)
      refine (x_lastore D152_52).trans (gw_c ?_)
      refine mJ_i (fun m11 => X (d + 1) 152 53 [.ref a0, .ref a1, .int x2, .int (x3 ||| (0 : Int32)), .int x4] [] m11) _ ?_
      intro m11
      refine (x_iinc D152_53 rfl (k := 1) (by decide) (ls' := [.ref a0, .ref a1, .int x2, .int (x3 ||| (0 : Int32)), .int (x4 + (1 : Int32))]) rfl).trans ?_
      refine (x_goto D152_56).trans ?_
      rfl
    · refine (x_iconst D152_33 (k := 1) (by decide)).trans ?_
      refine (x_goto D152_34).trans ?_
      refine (x_ior D152_38).trans ?_
      refine (x_istore1 D152_39 (ls' := [.ref a0, .ref a1, .int x2, .int (x3 ||| (1 : Int32)), .int x4]) rfl rfl).trans ?_
      refine (x_aload1 D152_40 rfl).trans ?_
      refine ((x_getR D152_41).trans (gd_t h_a0)).trans (bR_c fun r12 => ?_)
      refine (x_iload2 D152_44 rfl).trans ?_
      refine (x_aload1 D152_46 rfl).trans ?_
      refine (x_iload2 D152_47 rfl).trans ?_
      refine (x_cL D152_49 M153  (I153 _ _) rfl rfl (ok_i M153 (I153 _ _) rfl rfl h_a1)).trans (bL_c fun v14 m13 => ?_)
      refine (x_lastore D152_52).trans (gw_c ?_)
      refine mJ_i (fun m15 => X (d + 1) 152 53 [.ref a0, .ref a1, .int x2, .int (x3 ||| (1 : Int32)), .int x4] [] m15) _ ?_
      intro m15
      refine (x_iinc D152_53 rfl (k := 1) (by decide) (ls' := [.ref a0, .ref a1, .int x2, .int (x3 ||| (1 : Int32)), .int (x4 + (1 : Int32))]) rfl).trans ?_
      refine (x_goto D152_56).trans ?_
      rfl
theorem Se_note_96_e (d : Nat) (a0 : Nat) (a1 : Nat) (x2 : Int32) (x3 : Int32) (x4 : Int32) (m : eM) (h_a0 : kd a0 = 5) (h_a1 : kd a1 = 0) : Se_note_96 (d + 1) a0 a1 x2 x3 x4 m = if (7 : Int32) ≤ x4 then (mI m a0 4 ((gI m a0 4) + (1 : Int32)) fun m1 => yV m1) else (bR (gR m a0 1) fun r2 => gl r2 (if ((aln m r2).toInt32) ≤ (((gI m a0 4) * (7 : Int32)) + x4) then (mI m a0 4 ((gI m a0 4) + (1 : Int32)) fun m3 => yV m3) else (bR (gR m a0 1) fun r4 => bL (Ai_group d a1 x4 m) fun v6 m5 => gw m5 r4 21 (((gI m a0 4) * (7 : Int32)) + x4) (mJ m5 r4 (((gI m a0 4) * (7 : Int32)) + x4).toNatClampNeg v6 fun m7 => Se_note_96 (d + 1) a0 a1 x2 x3 (x4 + (1 : Int32)) m7)))) := by
  unfold Se_note_96
  refine (x_iload2 D152_96 rfl).trans ?_
  refine (x_bipush D152_98 (k := 7) (by decide)).trans ?_
  refine (x_cge D152_100).trans (i_c ?_ ?_)
  · refine (x_aload1 D152_148 rfl).trans ?_
    refine (x_dup1 D152_149 rfl).trans ?_
    refine ((x_getI D152_150).trans (gd_t h_a0)).trans ?_
    refine (x_iconst D152_153 (k := 1) (by decide)).trans ?_
    refine (x_iadd D152_154).trans ?_
    refine (x_putI D152_155 h_a0).trans ?_
    refine mI_i (fun m1 => X (d + 1) 152 158 [.ref a0, .ref a1, .int x2, .int x3, .int x4] [] m1) _ ?_
    intro m1
    exact x_vret D152_158 M152.2.2.1
  · refine (x_aload1 D152_103 rfl).trans ?_
    refine ((x_getI D152_104).trans (gd_t h_a0)).trans ?_
    refine (x_bipush D152_107 (k := 7) (by decide)).trans ?_
    refine (x_imul D152_109).trans ?_
    refine (x_iload2 D152_110 rfl).trans ?_
    refine (x_iadd D152_112).trans ?_
    refine (x_aload1 D152_113 rfl).trans ?_
    refine ((x_getR D152_114).trans (gd_t h_a0)).trans (bR_c fun r2 => ?_)
    refine (x_alen D152_117).trans (gl_c ?_)
    refine (x_cge D152_118).trans (i_c ?_ ?_)
    · refine (x_aload1 D152_148 rfl).trans ?_
      refine (x_dup1 D152_149 rfl).trans ?_
      refine ((x_getI D152_150).trans (gd_t h_a0)).trans ?_
      refine (x_iconst D152_153 (k := 1) (by decide)).trans ?_
      refine (x_iadd D152_154).trans ?_
      refine (x_putI D152_155 h_a0).trans ?_
      refine mI_i (fun m3 => X (d + 1) 152 158 [.ref a0, .ref a1, .int x2, .int x3, .int x4] [] m3) _ ?_
      intro m3
      exact x_vret D152_158 M152.2.2.1
    · refine (x_aload1 D152_121 rfl).trans ?_
      refine ((x_getR D152_122).trans (gd_t h_a0)).trans (bR_c fun r4 => ?_)
      refine (x_aload1 D152_125 rfl).trans ?_
      refine ((x_getI D152_126).trans (gd_t h_a0)).trans ?_
      refine (x_bipush D152_129 (k := 7) (by decide)).trans ?_
      refine (x_imul D152_131).trans ?_
      refine (x_iload2 D152_132 rfl).trans ?_
      refine (x_iadd D152_134).trans ?_
      refine (x_aload1 D152_135 rfl).trans ?_
      refine (x_iload2 D152_136 rfl).trans ?_
      refine (x_cL D152_138 M154  (I154 _ _) rfl rfl (ok_i M154 (I154 _ _) rfl rfl h_a1)).trans (bL_c fun v6 m5 => ?_)
      refine (x_lastore D152_141).trans (gw_c ?_)
      refine mJ_i (fun m7 => X (d + 1) 152 142 [.ref a0, .ref a1, .int x2, .int x3, .int x4] [] m7) _ ?_
      intro m7
      refine (x_iinc D152_142 rfl (k := 1) (by decide) (ls' := [.ref a0, .ref a1, .int x2, .int x3, .int (x4 + (1 : Int32))]) rfl).trans ?_
      refine (x_goto D152_145).trans ?_
      rfl
theorem D153_0 : decode (mB 153) 0 = .ok (.iload_n 1, 1) := by decide +kernel
theorem D153_1 : BR 153 1 (.ifCond .lt 21) (21) 22 := ⟨by decide +kernel, by decide, by decide⟩
theorem D153_22 : decode (mB 153) 22 = .ok (.lconst 0, 1) := by decide +kernel
theorem D153_23 : decode (mB 153) 23 = .ok (.lreturn, 1) := by decide +kernel
theorem D153_4 : decode (mB 153) 4 = .ok (.iload_n 1, 1) := by decide +kernel
theorem D153_5 : decode (mB 153) 5 = .ok (.aload_n 0, 1) := by decide +kernel
theorem D153_6 : GF 153 6 0 0 2 := ⟨9, true, by decide +kernel, by decide +kernel⟩
theorem D153_9 : decode (mB 153) 9 = .ok (.arraylength, 1) := by decide +kernel
theorem D153_10 : BR 153 10 (.if_icmp .ge 12) (12) 22 := ⟨by decide +kernel, by decide, by decide⟩
theorem D153_13 : decode (mB 153) 13 = .ok (.aload_n 0, 1) := by decide +kernel
theorem D153_14 : GF 153 14 0 0 2 := ⟨9, true, by decide +kernel, by decide +kernel⟩
theorem D153_17 : decode (mB 153) 17 = .ok (.iload_n 1, 1) := by decide +kernel
theorem D153_18 : decode (mB 153) 18 = .ok (.laload, 1) := by decide +kernel
theorem D153_19 : BR 153 19 (.goto 4) (4) 23 := ⟨by decide +kernel, by decide, by decide⟩
theorem Ai_at_e (d : Nat) (a0 : Nat) (x1 : Int32) (m : eM) (h_a0 : kd a0 = 0) : Ai_at d a0 x1 m = if x1 < 0 then (yL (0 : Int64) m) else (bR (gR m a0 0) fun r1 => gl r1 (if ((aln m r1).toInt32) ≤ x1 then (yL (0 : Int64) m) else (bR (gR m a0 0) fun r2 => ga m r2 21 x1 (yL (gL m r2 x1.toNatClampNeg) m)))) := by
  unfold Ai_at
  refine (x_iload1 D153_0 rfl).trans ?_
  refine (x_iflt D153_1).trans (i_c ?_ ?_)
  · refine (x_lconst0 D153_22).trans ?_
    exact x_lret D153_23 M153.2.2.1
  · refine (x_iload1 D153_4 rfl).trans ?_
    refine (x_aload1 D153_5 rfl).trans ?_
    refine ((x_getR D153_6).trans (gd_t h_a0)).trans (bR_c fun r1 => ?_)
    refine (x_alen D153_9).trans (gl_c ?_)
    refine (x_cge D153_10).trans (i_c ?_ ?_)
    · refine (x_lconst0 D153_22).trans ?_
      exact x_lret D153_23 M153.2.2.1
    · refine (x_aload1 D153_13 rfl).trans ?_
      refine ((x_getR D153_14).trans (gd_t h_a0)).trans (bR_c fun r2 => ?_)
      refine (x_iload1 D153_17 rfl).trans ?_
      refine (x_laload D153_18).trans (ga_c ?_)
      refine (x_goto D153_19).trans ?_
      exact x_lret D153_23 M153.2.2.1
theorem D154_0 : decode (mB 154) 0 = .ok (.iload_n 1, 1) := by decide +kernel
theorem D154_1 : BR 154 1 (.ifCond .lt 21) (21) 22 := ⟨by decide +kernel, by decide, by decide⟩
theorem D154_22 : decode (mB 154) 22 = .ok (.lconst 0, 1) := by decide +kernel
theorem D154_23 : decode (mB 154) 23 = .ok (.lreturn, 1) := by decide +kernel
theorem D154_4 : decode (mB 154) 4 = .ok (.iload_n 1, 1) := by decide +kernel
theorem D154_5 : decode (mB 154) 5 = .ok (.aload_n 0, 1) := by decide +kernel
theorem D154_6 : GF 154 6 0 1 2 := ⟨15, true, by decide +kernel, by decide +kernel⟩
theorem D154_9 : decode (mB 154) 9 = .ok (.arraylength, 1) := by decide +kernel
theorem D154_10 : BR 154 10 (.if_icmp .ge 12) (12) 22 := ⟨by decide +kernel, by decide, by decide⟩
theorem D154_13 : decode (mB 154) 13 = .ok (.aload_n 0, 1) := by decide +kernel
theorem D154_14 : GF 154 14 0 1 2 := ⟨15, true, by decide +kernel, by decide +kernel⟩
theorem D154_17 : decode (mB 154) 17 = .ok (.iload_n 1, 1) := by decide +kernel
theorem D154_18 : decode (mB 154) 18 = .ok (.laload, 1) := by decide +kernel
theorem D154_19 : BR 154 19 (.goto 4) (4) 23 := ⟨by decide +kernel, by decide, by decide⟩
theorem Ai_group_e (d : Nat) (a0 : Nat) (x1 : Int32) (m : eM) (h_a0 : kd a0 = 0) : Ai_group d a0 x1 m = if x1 < 0 then (yL (0 : Int64) m) else (bR (gR m a0 1) fun r1 => gl r1 (if ((aln m r1).toInt32) ≤ x1 then (yL (0 : Int64) m) else (bR (gR m a0 1) fun r2 => ga m r2 21 x1 (yL (gL m r2 x1.toNatClampNeg) m)))) := by
  unfold Ai_group
  refine (x_iload1 D154_0 rfl).trans ?_
  refine (x_iflt D154_1).trans (i_c ?_ ?_)
  · refine (x_lconst0 D154_22).trans ?_
    exact x_lret D154_23 M154.2.2.1
  · refine (x_iload1 D154_4 rfl).trans ?_
    refine (x_aload1 D154_5 rfl).trans ?_
    refine ((x_getR D154_6).trans (gd_t h_a0)).trans (bR_c fun r1 => ?_)
    refine (x_alen D154_9).trans (gl_c ?_)
    refine (x_cge D154_10).trans (i_c ?_ ?_)
    · refine (x_lconst0 D154_22).trans ?_
      exact x_lret D154_23 M154.2.2.1
    · refine (x_aload1 D154_13 rfl).trans ?_
      refine ((x_getR D154_14).trans (gd_t h_a0)).trans (bR_c fun r2 => ?_)
      refine (x_iload1 D154_17 rfl).trans ?_
      refine (x_laload D154_18).trans (ga_c ?_)
      refine (x_goto D154_19).trans ?_
      exact x_lret D154_23 M154.2.2.1
theorem D155_0 : decode (mB 155) 0 = .ok (.aload_n 0, 1) := by decide +kernel
theorem D155_1 : decode (mB 155) 1 = .ok (.lload_n 1, 1) := by decide +kernel
theorem D155_2 : PF 155 2 5 6 1 := ⟨74, false, by decide +kernel, by decide +kernel, by decide +kernel, by decide⟩
theorem D155_5 : decode (mB 155) 5 = .ok (.iconst 0, 1) := by decide +kernel
theorem D155_6 : decode (mB 155) 6 = .ok (.istore_n 3, 1) := by decide +kernel
theorem D155_7 : decode (mB 155) 7 = .ok (.iload_n 3, 1) := by decide +kernel
theorem D155_8 : decode (mB 155) 8 = .ok (.iconst 3, 1) := by decide +kernel
theorem D155_9 : BR 155 9 (.if_icmp .gt 21) (21) 30 := ⟨by decide +kernel, by decide, by decide⟩
theorem D155_30 : decode (mB 155) 30 = .ok (.iconst (-1), 1) := by decide +kernel
theorem D155_31 : decode (mB 155) 31 = .ok (.ireturn, 1) := by decide +kernel
theorem D155_12 : decode (mB 155) 12 = .ok (.aload_n 0, 1) := by decide +kernel
theorem D155_13 : decode (mB 155) 13 = .ok (.iconst 0, 1) := by decide +kernel
theorem D155_14 : decode (mB 155) 14 = .ok (.iconst 0, 1) := by decide +kernel
theorem D155_15 : decode (mB 155) 15 = .ok (.iload_n 3, 1) := by decide +kernel
theorem D155_16 : CS 155 16 156 0 := ⟨.invokevirtual 77, by decide +kernel, by decide +kernel, by decide +kernel, by decide⟩
theorem D155_19 : BR 155 19 (.ifCond .eq 5) (5) 24 := ⟨by decide +kernel, by decide, by decide⟩
theorem D155_24 : decode (mB 155) 24 = .ok (.iinc 3 1, 3) := by decide +kernel
theorem D155_27 : BR 155 27 (.goto (-20)) (-20) 7 := ⟨by decide +kernel, by decide, by decide⟩
theorem D155_22 : decode (mB 155) 22 = .ok (.iload_n 3, 1) := by decide +kernel
theorem D155_23 : decode (mB 155) 23 = .ok (.ireturn, 1) := by decide +kernel
theorem Se_fewestMinutes_e (d : Nat) (a0 : Nat) (y1 : Int64) (m : eM) (h_a0 : kd a0 = 5) : Se_fewestMinutes (d + 1) a0 y1 m = mJ m a0 6 y1 fun m1 => Se_fewestMinutes_7 (d + 1) a0 y1 (0 : Int32) m1 := by
  unfold Se_fewestMinutes
  refine (x_aload1 D155_0 rfl).trans ?_
  refine (x_lload1 D155_1 rfl).trans ?_
  refine (x_putL D155_2 h_a0).trans ?_
  refine mJ_i (fun m1 => X (d + 1) 155 5 [.ref a0, .long y1, eU, eU] [] m1) _ ?_
  intro m1
  refine (x_iconst D155_5 (k := 0) (by decide)).trans ?_
  refine (x_istore1 D155_6 (ls' := [.ref a0, .long y1, eU, .int (0 : Int32)]) rfl rfl).trans ?_
  rfl
theorem Se_fewestMinutes_7_e (d : Nat) (a0 : Nat) (y1 : Int64) (x3 : Int32) (m : eM) (h_a0 : kd a0 = 5) : Se_fewestMinutes_7 (d + 1) a0 y1 x3 m = if (3 : Int32) < x3 then (yI (-1 : Int32) m) else (bI (Se_pick d a0 (0 : Int32) (0 : Int32) x3 m) fun v2 m1 => if v2 = 0 then (Se_fewestMinutes_7 (d + 1) a0 y1 (x3 + (1 : Int32)) m1) else (yI x3 m1)) := by
  unfold Se_fewestMinutes_7
  refine (x_iload1 D155_7 rfl).trans ?_
  refine (x_iconst D155_8 (k := 3) (by decide)).trans ?_
  refine (x_cgt D155_9).trans (i_c ?_ ?_)
  · refine (x_iconst D155_30 (k := -1) (by decide)).trans ?_
    exact x_iret D155_31 M155.2.2.1
  · refine (x_aload1 D155_12 rfl).trans ?_
    refine (x_iconst D155_13 (k := 0) (by decide)).trans ?_
    refine (x_iconst D155_14 (k := 0) (by decide)).trans ?_
    refine (x_iload1 D155_15 rfl).trans ?_
    refine (x_cI D155_16 M156 (fun z => by cases z) (I156 _ _ _ _) rfl rfl (ok_i M156 (I156 _ _ _ _) rfl rfl h_a0)).trans (bI_c fun v2 m1 => ?_)
    refine (x_ifeq D155_19).trans (i_c ?_ ?_)
    · refine (x_iinc D155_24 rfl (k := 1) (by decide) (ls' := [.ref a0, .long y1, eU, .int (x3 + (1 : Int32))]) rfl).trans ?_
      refine (x_goto D155_27).trans ?_
      rfl
    · refine (x_iload1 D155_22 rfl).trans ?_
      exact x_iret D155_23 M155.2.2.1
theorem D156_0 : decode (mB 156) 0 = .ok (.iload_n 1, 1) := by decide +kernel
theorem D156_1 : decode (mB 156) 1 = .ok (.iload_n 3, 1) := by decide +kernel
theorem D156_2 : BR 156 2 (.if_icmp .ge 12) (12) 14 := ⟨by decide +kernel, by decide, by decide⟩
theorem D156_14 : decode (mB 156) 14 = .ok (.aload_n 0, 1) := by decide +kernel
theorem D156_15 : decode (mB 156) 15 = .ok (.iconst 0, 1) := by decide +kernel
theorem D156_16 : decode (mB 156) 16 = .ok (.iload_n 3, 1) := by decide +kernel
theorem D156_17 : decode (mB 156) 17 = .ok (.aload_n 0, 1) := by decide +kernel
theorem D156_18 : GF 156 18 5 5 1 := ⟨29, false, by decide +kernel, by decide +kernel⟩
theorem D156_21 : CS 156 21 157 0 := ⟨.invokevirtual 81, by decide +kernel, by decide +kernel, by decide +kernel, by decide⟩
theorem D156_24 : decode (mB 156) 24 = .ok (.ireturn, 1) := by decide +kernel
theorem D156_5 : decode (mB 156) 5 = .ok (.iload_n 1, 1) := by decide +kernel
theorem D156_6 : decode (mB 156) 6 = .ok (.aload_n 0, 1) := by decide +kernel
theorem D156_7 : GF 156 7 5 3 2 := ⟨22, true, by decide +kernel, by decide +kernel⟩
theorem D156_10 : decode (mB 156) 10 = .ok (.arraylength, 1) := by decide +kernel
theorem D156_11 : BR 156 11 (.if_icmp .lt 14) (14) 25 := ⟨by decide +kernel, by decide, by decide⟩
theorem D156_25 : decode (mB 156) 25 = .ok (.iload_n 2, 1) := by decide +kernel
theorem D156_26 : decode (mB 156) 26 = .ok (.istore 4, 2) := by decide +kernel
theorem D156_28 : decode (mB 156) 28 = .ok (.iload 4, 2) := by decide +kernel
theorem D156_30 : decode (mB 156) 30 = .ok (.aload_n 0, 1) := by decide +kernel
theorem D156_31 : GF 156 31 5 4 0 := ⟨25, false, by decide +kernel, by decide +kernel⟩
theorem D156_34 : BR 156 34 (.if_icmp .ge 34) (34) 68 := ⟨by decide +kernel, by decide, by decide⟩
theorem D156_68 : decode (mB 156) 68 = .ok (.iconst 0, 1) := by decide +kernel
theorem D156_69 : decode (mB 156) 69 = .ok (.ireturn, 1) := by decide +kernel
theorem D156_37 : decode (mB 156) 37 = .ok (.aload_n 0, 1) := by decide +kernel
theorem D156_38 : GF 156 38 5 3 2 := ⟨22, true, by decide +kernel, by decide +kernel⟩
theorem D156_41 : decode (mB 156) 41 = .ok (.iload_n 1, 1) := by decide +kernel
theorem D156_42 : decode (mB 156) 42 = .ok (.iload 4, 2) := by decide +kernel
theorem D156_44 : decode (mB 156) 44 = .ok (.iastore, 1) := by decide +kernel
theorem D156_45 : decode (mB 156) 45 = .ok (.aload_n 0, 1) := by decide +kernel
theorem D156_46 : decode (mB 156) 46 = .ok (.iload_n 1, 1) := by decide +kernel
theorem D156_47 : decode (mB 156) 47 = .ok (.iconst 1, 1) := by decide +kernel
theorem D156_48 : decode (mB 156) 48 = .ok (.iadd, 1) := by decide +kernel
theorem D156_49 : decode (mB 156) 49 = .ok (.iload 4, 2) := by decide +kernel
theorem D156_51 : decode (mB 156) 51 = .ok (.iconst 1, 1) := by decide +kernel
theorem D156_52 : decode (mB 156) 52 = .ok (.iadd, 1) := by decide +kernel
theorem D156_53 : decode (mB 156) 53 = .ok (.iload_n 3, 1) := by decide +kernel
theorem D156_54 : CS 156 54 156 0 := ⟨.invokevirtual 77, by decide +kernel, by decide +kernel, by decide +kernel, by decide⟩
theorem D156_57 : BR 156 57 (.ifCond .eq 5) (5) 62 := ⟨by decide +kernel, by decide, by decide⟩
theorem D156_62 : decode (mB 156) 62 = .ok (.iinc 4 1, 3) := by decide +kernel
theorem D156_65 : BR 156 65 (.goto (-37)) (-37) 28 := ⟨by decide +kernel, by decide, by decide⟩
theorem D156_60 : decode (mB 156) 60 = .ok (.iconst 1, 1) := by decide +kernel
theorem D156_61 : decode (mB 156) 61 = .ok (.ireturn, 1) := by decide +kernel
theorem Se_pick_e (d : Nat) (a0 : Nat) (x1 : Int32) (x2 : Int32) (x3 : Int32) (m : eM) (h_a0 : kd a0 = 5) : Se_pick (d + 1) a0 x1 x2 x3 m = if x3 ≤ x1 then (bI (Se_tell d a0 (0 : Int32) x3 (gL m a0 5) m) fun v2 m1 => yB v2 m1) else (bR (gR m a0 3) fun r3 => gl r3 (if x1 < ((aln m r3).toInt32) then (Se_pick_28 (d + 1) a0 x1 x2 x3 x2 m) else (bI (Se_tell d a0 (0 : Int32) x3 (gL m a0 5) m) fun v5 m4 => yB v5 m4))) := by
  unfold Se_pick
  refine (x_iload1 D156_0 rfl).trans ?_
  refine (x_iload1 D156_1 rfl).trans ?_
  refine (x_cge D156_2).trans (i_c ?_ ?_)
  · refine (x_aload1 D156_14 rfl).trans ?_
    refine (x_iconst D156_15 (k := 0) (by decide)).trans ?_
    refine (x_iload1 D156_16 rfl).trans ?_
    refine (x_aload1 D156_17 rfl).trans ?_
    refine ((x_getL D156_18).trans (gd_t h_a0)).trans ?_
    refine (x_cI D156_21 M157 (fun z => by cases z) (I157 _ _ _ _) rfl rfl (ok_i M157 (I157 _ _ _ _) rfl rfl h_a0)).trans (bI_c fun v2 m1 => ?_)
    exact x_bret D156_24 M156.2.2.1
  · refine (x_iload1 D156_5 rfl).trans ?_
    refine (x_aload1 D156_6 rfl).trans ?_
    refine ((x_getR D156_7).trans (gd_t h_a0)).trans (bR_c fun r3 => ?_)
    refine (x_alen D156_10).trans (gl_c ?_)
    refine (x_clt D156_11).trans (i_c ?_ ?_)
    · refine (x_iload1 D156_25 rfl).trans ?_
      refine (x_istore2 D156_26 (ls' := [.ref a0, .int x1, .int x2, .int x3, .int x2]) rfl rfl).trans ?_
      rfl
    · refine (x_aload1 D156_14 rfl).trans ?_
      refine (x_iconst D156_15 (k := 0) (by decide)).trans ?_
      refine (x_iload1 D156_16 rfl).trans ?_
      refine (x_aload1 D156_17 rfl).trans ?_
      refine ((x_getL D156_18).trans (gd_t h_a0)).trans ?_
      refine (x_cI D156_21 M157 (fun z => by cases z) (I157 _ _ _ _) rfl rfl (ok_i M157 (I157 _ _ _ _) rfl rfl h_a0)).trans (bI_c fun v5 m4 => ?_)
      exact x_bret D156_24 M156.2.2.1
theorem Se_pick_28_e (d : Nat) (a0 : Nat) (x1 : Int32) (x2 : Int32) (x3 : Int32) (x4 : Int32) (m : eM) (h_a0 : kd a0 = 5) : Se_pick_28 (d + 1) a0 x1 x2 x3 x4 m = if (gI m a0 4) ≤ x4 then (yI (0 : Int32) m) else (bR (gR m a0 3) fun r1 => gw m r1 20 x1 (mI m r1 x1.toNatClampNeg x4 fun m2 => bI (Se_pick d a0 (x1 + (1 : Int32)) (x4 + (1 : Int32)) x3 m2) fun v4 m3 => if v4 = 0 then (Se_pick_28 (d + 1) a0 x1 x2 x3 (x4 + (1 : Int32)) m3) else (yI (1 : Int32) m3))) := by
  unfold Se_pick_28
  refine (x_iload2 D156_28 rfl).trans ?_
  refine (x_aload1 D156_30 rfl).trans ?_
  refine ((x_getI D156_31).trans (gd_t h_a0)).trans ?_
  refine (x_cge D156_34).trans (i_c ?_ ?_)
  · refine (x_iconst D156_68 (k := 0) (by decide)).trans ?_
    exact (x_bret D156_69 M156.2.2.1).trans yB0
  · refine (x_aload1 D156_37 rfl).trans ?_
    refine ((x_getR D156_38).trans (gd_t h_a0)).trans (bR_c fun r1 => ?_)
    refine (x_iload1 D156_41 rfl).trans ?_
    refine (x_iload2 D156_42 rfl).trans ?_
    refine (x_iastore D156_44).trans (gw_c ?_)
    refine mI_i (fun m2 => X (d + 1) 156 45 [.ref a0, .int x1, .int x2, .int x3, .int x4] [] m2) _ ?_
    intro m2
    refine (x_aload1 D156_45 rfl).trans ?_
    refine (x_iload1 D156_46 rfl).trans ?_
    refine (x_iconst D156_47 (k := 1) (by decide)).trans ?_
    refine (x_iadd D156_48).trans ?_
    refine (x_iload2 D156_49 rfl).trans ?_
    refine (x_iconst D156_51 (k := 1) (by decide)).trans ?_
    refine (x_iadd D156_52).trans ?_
    refine (x_iload1 D156_53 rfl).trans ?_
    refine (x_cI D156_54 M156 (fun z => by cases z) (I156 _ _ _ _) rfl rfl (ok_i M156 (I156 _ _ _ _) rfl rfl h_a0)).trans (bI_c fun v4 m3 => ?_)
    refine (x_ifeq D156_57).trans (i_c ?_ ?_)
    · refine (x_iinc D156_62 rfl (k := 1) (by decide) (ls' := [.ref a0, .int x1, .int x2, .int x3, .int (x4 + (1 : Int32))]) rfl).trans ?_
      refine (x_goto D156_65).trans ?_
      rfl
    · refine (x_iconst D156_60 (k := 1) (by decide)).trans ?_
      exact (x_bret D156_61 M156.2.2.1).trans yB1
theorem D157_0 : decode (mB 157) 0 = .ok (.lload_n 3, 1) := by decide +kernel
theorem D157_1 : decode (mB 157) 1 = .ok (.aload_n 0, 1) := by decide +kernel
theorem D157_2 : GF 157 2 5 6 1 := ⟨74, false, by decide +kernel, by decide +kernel⟩
theorem D157_5 : CS 157 5 122 2 := ⟨.invokestatic 85, by decide +kernel, by decide +kernel, by decide +kernel, by decide⟩
theorem D157_8 : decode (mB 157) 8 = .ok (.iconst 2, 1) := by decide +kernel
theorem D157_9 : BR 157 9 (.if_icmp .eq 5) (5) 14 := ⟨by decide +kernel, by decide, by decide⟩
theorem D157_14 : decode (mB 157) 14 = .ok (.iload_n 1, 1) := by decide +kernel
theorem D157_15 : decode (mB 157) 15 = .ok (.iload_n 2, 1) := by decide +kernel
theorem D157_16 : BR 157 16 (.if_icmp .ge 12) (12) 28 := ⟨by decide +kernel, by decide, by decide⟩
theorem D157_28 : decode (mB 157) 28 = .ok (.iconst 0, 1) := by decide +kernel
theorem D157_29 : decode (mB 157) 29 = .ok (.ireturn, 1) := by decide +kernel
theorem D157_19 : decode (mB 157) 19 = .ok (.iload_n 1, 1) := by decide +kernel
theorem D157_20 : decode (mB 157) 20 = .ok (.aload_n 0, 1) := by decide +kernel
theorem D157_21 : GF 157 21 5 3 2 := ⟨22, true, by decide +kernel, by decide +kernel⟩
theorem D157_24 : decode (mB 157) 24 = .ok (.arraylength, 1) := by decide +kernel
theorem D157_25 : BR 157 25 (.if_icmp .lt 5) (5) 30 := ⟨by decide +kernel, by decide, by decide⟩
theorem D157_30 : decode (mB 157) 30 = .ok (.iconst 0, 1) := by decide +kernel
theorem D157_31 : decode (mB 157) 31 = .ok (.istore 5, 2) := by decide +kernel
theorem D157_12 : decode (mB 157) 12 = .ok (.iconst 1, 1) := by decide +kernel
theorem D157_13 : decode (mB 157) 13 = .ok (.ireturn, 1) := by decide +kernel
theorem D157_33 : decode (mB 157) 33 = .ok (.iload 5, 2) := by decide +kernel
theorem D157_35 : decode (mB 157) 35 = .ok (.bipush 7, 2) := by decide +kernel
theorem D157_37 : BR 157 37 (.if_icmp .ge 40) (40) 77 := ⟨by decide +kernel, by decide, by decide⟩
theorem D157_77 : decode (mB 157) 77 = .ok (.iconst 1, 1) := by decide +kernel
theorem D157_78 : decode (mB 157) 78 = .ok (.ireturn, 1) := by decide +kernel
theorem D157_40 : decode (mB 157) 40 = .ok (.aload_n 0, 1) := by decide +kernel
theorem D157_41 : decode (mB 157) 41 = .ok (.iload_n 1, 1) := by decide +kernel
theorem D157_42 : decode (mB 157) 42 = .ok (.iconst 1, 1) := by decide +kernel
theorem D157_43 : decode (mB 157) 43 = .ok (.iadd, 1) := by decide +kernel
theorem D157_44 : decode (mB 157) 44 = .ok (.iload_n 2, 1) := by decide +kernel
theorem D157_45 : decode (mB 157) 45 = .ok (.lload_n 3, 1) := by decide +kernel
theorem D157_46 : decode (mB 157) 46 = .ok (.aload_n 0, 1) := by decide +kernel
theorem D157_47 : decode (mB 157) 47 = .ok (.aload_n 0, 1) := by decide +kernel
theorem D157_48 : GF 157 48 5 3 2 := ⟨22, true, by decide +kernel, by decide +kernel⟩
theorem D157_51 : decode (mB 157) 51 = .ok (.iload_n 1, 1) := by decide +kernel
theorem D157_52 : decode (mB 157) 52 = .ok (.iaload, 1) := by decide +kernel
theorem D157_53 : decode (mB 157) 53 = .ok (.bipush 7, 2) := by decide +kernel
theorem D157_55 : decode (mB 157) 55 = .ok (.imul, 1) := by decide +kernel
theorem D157_56 : decode (mB 157) 56 = .ok (.iload 5, 2) := by decide +kernel
theorem D157_58 : decode (mB 157) 58 = .ok (.iadd, 1) := by decide +kernel
theorem D157_59 : CS 157 59 158 0 := ⟨.invokevirtual 89, by decide +kernel, by decide +kernel, by decide +kernel, by decide⟩
theorem D157_62 : decode (mB 157) 62 = .ok (.land, 1) := by decide +kernel
theorem D157_63 : CS 157 63 157 0 := ⟨.invokevirtual 81, by decide +kernel, by decide +kernel, by decide +kernel, by decide⟩
theorem D157_66 : BR 157 66 (.ifCond .ne 5) (5) 71 := ⟨by decide +kernel, by decide, by decide⟩
theorem D157_71 : decode (mB 157) 71 = .ok (.iinc 5 1, 3) := by decide +kernel
theorem D157_74 : BR 157 74 (.goto (-41)) (-41) 33 := ⟨by decide +kernel, by decide, by decide⟩
theorem D157_69 : decode (mB 157) 69 = .ok (.iconst 0, 1) := by decide +kernel
theorem D157_70 : decode (mB 157) 70 = .ok (.ireturn, 1) := by decide +kernel
theorem Se_tell_e (d : Nat) (a0 : Nat) (x1 : Int32) (x2 : Int32) (y3 : Int64) (m : eM) (h_a0 : kd a0 = 5) : Se_tell (d + 1) a0 x1 x2 y3 m = bI (LC_sureness d y3 (gL m a0 6) m) fun v2 m1 => if v2 = (2 : Int32) then (if x2 ≤ x1 then (yI (0 : Int32) m1) else (bR (gR m1 a0 3) fun r3 => gl r3 (if x1 < ((aln m1 r3).toInt32) then (Se_tell_33 (d + 1) a0 x1 x2 y3 (0 : Int32) m1) else (yI (0 : Int32) m1)))) else (yI (1 : Int32) m1) := by
  unfold Se_tell
  refine (x_lload1 D157_0 rfl).trans ?_
  refine (x_aload1 D157_1 rfl).trans ?_
  refine ((x_getL D157_2).trans (gd_t h_a0)).trans ?_
  refine (x_cI D157_5 M122 (fun z => by cases z) (I122 _ _) rfl rfl (ok_s M122 (I122 _ _) rfl rfl)).trans (bI_c fun v2 m1 => ?_)
  refine (x_iconst D157_8 (k := 2) (by decide)).trans ?_
  refine (x_ceq D157_9).trans (i_c ?_ ?_)
  · refine (x_iload1 D157_14 rfl).trans ?_
    refine (x_iload1 D157_15 rfl).trans ?_
    refine (x_cge D157_16).trans (i_c ?_ ?_)
    · refine (x_iconst D157_28 (k := 0) (by decide)).trans ?_
      exact (x_bret D157_29 M157.2.2.1).trans yB0
    · refine (x_iload1 D157_19 rfl).trans ?_
      refine (x_aload1 D157_20 rfl).trans ?_
      refine ((x_getR D157_21).trans (gd_t h_a0)).trans (bR_c fun r3 => ?_)
      refine (x_alen D157_24).trans (gl_c ?_)
      refine (x_clt D157_25).trans (i_c ?_ ?_)
      · refine (x_iconst D157_30 (k := 0) (by decide)).trans ?_
        refine (x_istore2 D157_31 (ls' := [.ref a0, .int x1, .int x2, .long y3, eU, .int (0 : Int32)]) rfl rfl).trans ?_
        rfl
      · refine (x_iconst D157_28 (k := 0) (by decide)).trans ?_
        exact (x_bret D157_29 M157.2.2.1).trans yB0
  · refine (x_iconst D157_12 (k := 1) (by decide)).trans ?_
    exact (x_bret D157_13 M157.2.2.1).trans yB1
theorem Se_tell_33_e (d : Nat) (a0 : Nat) (x1 : Int32) (x2 : Int32) (y3 : Int64) (x5 : Int32) (m : eM) (h_a0 : kd a0 = 5) : Se_tell_33 (d + 1) a0 x1 x2 y3 x5 m = if (7 : Int32) ≤ x5 then (yI (1 : Int32) m) else (bR (gR m a0 3) fun r1 => ga m r1 20 x1 (bL (Se_groupAt d a0 (((gI m r1 x1.toNatClampNeg) * (7 : Int32)) + x5) m) fun v3 m2 => bI (Se_tell d a0 (x1 + (1 : Int32)) x2 (y3 &&& v3) m2) fun v5 m4 => if ¬ v5 = 0 then (Se_tell_33 (d + 1) a0 x1 x2 y3 (x5 + (1 : Int32)) m4) else (yI (0 : Int32) m4))) := by
  unfold Se_tell_33
  refine (x_iload2 D157_33 rfl).trans ?_
  refine (x_bipush D157_35 (k := 7) (by decide)).trans ?_
  refine (x_cge D157_37).trans (i_c ?_ ?_)
  · refine (x_iconst D157_77 (k := 1) (by decide)).trans ?_
    exact (x_bret D157_78 M157.2.2.1).trans yB1
  · refine (x_aload1 D157_40 rfl).trans ?_
    refine (x_iload1 D157_41 rfl).trans ?_
    refine (x_iconst D157_42 (k := 1) (by decide)).trans ?_
    refine (x_iadd D157_43).trans ?_
    refine (x_iload1 D157_44 rfl).trans ?_
    refine (x_lload1 D157_45 rfl).trans ?_
    refine (x_aload1 D157_46 rfl).trans ?_
    refine (x_aload1 D157_47 rfl).trans ?_
    refine ((x_getR D157_48).trans (gd_t h_a0)).trans (bR_c fun r1 => ?_)
    refine (x_iload1 D157_51 rfl).trans ?_
    refine (x_iaload D157_52).trans (ga_c ?_)
    refine (x_bipush D157_53 (k := 7) (by decide)).trans ?_
    refine (x_imul D157_55).trans ?_
    refine (x_iload2 D157_56 rfl).trans ?_
    refine (x_iadd D157_58).trans ?_
    refine (x_cL D157_59 M158  (I158 _ _) rfl rfl (ok_i M158 (I158 _ _) rfl rfl h_a0)).trans (bL_c fun v3 m2 => ?_)
    refine (x_land D157_62).trans ?_
    refine (x_cI D157_63 M157 (fun z => by cases z) (I157 _ _ _ _) rfl rfl (ok_i M157 (I157 _ _ _ _) rfl rfl h_a0)).trans (bI_c fun v5 m4 => ?_)
    refine (x_ifne D157_66).trans (i_c ?_ ?_)
    · refine (x_iinc D157_71 rfl (k := 1) (by decide) (ls' := [.ref a0, .int x1, .int x2, .long y3, eU, .int (x5 + (1 : Int32))]) rfl).trans ?_
      refine (x_goto D157_74).trans ?_
      rfl
    · refine (x_iconst D157_69 (k := 0) (by decide)).trans ?_
      exact (x_bret D157_70 M157.2.2.1).trans yB0
theorem D158_0 : decode (mB 158) 0 = .ok (.iload_n 1, 1) := by decide +kernel
theorem D158_1 : BR 158 1 (.ifCond .lt 21) (21) 22 := ⟨by decide +kernel, by decide, by decide⟩
theorem D158_22 : decode (mB 158) 22 = .ok (.lconst 0, 1) := by decide +kernel
theorem D158_23 : decode (mB 158) 23 = .ok (.lreturn, 1) := by decide +kernel
theorem D158_4 : decode (mB 158) 4 = .ok (.iload_n 1, 1) := by decide +kernel
theorem D158_5 : decode (mB 158) 5 = .ok (.aload_n 0, 1) := by decide +kernel
theorem D158_6 : GF 158 6 5 1 2 := ⟨15, true, by decide +kernel, by decide +kernel⟩
theorem D158_9 : decode (mB 158) 9 = .ok (.arraylength, 1) := by decide +kernel
theorem D158_10 : BR 158 10 (.if_icmp .ge 12) (12) 22 := ⟨by decide +kernel, by decide, by decide⟩
theorem D158_13 : decode (mB 158) 13 = .ok (.aload_n 0, 1) := by decide +kernel
theorem D158_14 : GF 158 14 5 1 2 := ⟨15, true, by decide +kernel, by decide +kernel⟩
theorem D158_17 : decode (mB 158) 17 = .ok (.iload_n 1, 1) := by decide +kernel
theorem D158_18 : decode (mB 158) 18 = .ok (.laload, 1) := by decide +kernel
theorem D158_19 : BR 158 19 (.goto 4) (4) 23 := ⟨by decide +kernel, by decide, by decide⟩
theorem Se_groupAt_e (d : Nat) (a0 : Nat) (x1 : Int32) (m : eM) (h_a0 : kd a0 = 5) : Se_groupAt d a0 x1 m = if x1 < 0 then (yL (0 : Int64) m) else (bR (gR m a0 1) fun r1 => gl r1 (if ((aln m r1).toInt32) ≤ x1 then (yL (0 : Int64) m) else (bR (gR m a0 1) fun r2 => ga m r2 21 x1 (yL (gL m r2 x1.toNatClampNeg) m)))) := by
  unfold Se_groupAt
  refine (x_iload1 D158_0 rfl).trans ?_
  refine (x_iflt D158_1).trans (i_c ?_ ?_)
  · refine (x_lconst0 D158_22).trans ?_
    exact x_lret D158_23 M158.2.2.1
  · refine (x_iload1 D158_4 rfl).trans ?_
    refine (x_aload1 D158_5 rfl).trans ?_
    refine ((x_getR D158_6).trans (gd_t h_a0)).trans (bR_c fun r1 => ?_)
    refine (x_alen D158_9).trans (gl_c ?_)
    refine (x_cge D158_10).trans (i_c ?_ ?_)
    · refine (x_lconst0 D158_22).trans ?_
      exact x_lret D158_23 M158.2.2.1
    · refine (x_aload1 D158_13 rfl).trans ?_
      refine ((x_getR D158_14).trans (gd_t h_a0)).trans (bR_c fun r2 => ?_)
      refine (x_iload1 D158_17 rfl).trans ?_
      refine (x_laload D158_18).trans (ga_c ?_)
      refine (x_goto D158_19).trans ?_
      exact x_lret D158_23 M158.2.2.1
theorem D159_0 : decode (mB 159) 0 = .ok (.iload_n 1, 1) := by decide +kernel
theorem D159_1 : BR 159 1 (.ifCond .lt 21) (21) 22 := ⟨by decide +kernel, by decide, by decide⟩
theorem D159_22 : decode (mB 159) 22 = .ok (.iconst (-1), 1) := by decide +kernel
theorem D159_4 : decode (mB 159) 4 = .ok (.iload_n 1, 1) := by decide +kernel
theorem D159_5 : decode (mB 159) 5 = .ok (.aload_n 0, 1) := by decide +kernel
theorem D159_6 : GF 159 6 5 3 2 := ⟨22, true, by decide +kernel, by decide +kernel⟩
theorem D159_9 : decode (mB 159) 9 = .ok (.arraylength, 1) := by decide +kernel
theorem D159_10 : BR 159 10 (.if_icmp .ge 12) (12) 22 := ⟨by decide +kernel, by decide, by decide⟩
theorem D159_13 : decode (mB 159) 13 = .ok (.aload_n 0, 1) := by decide +kernel
theorem D159_14 : GF 159 14 5 3 2 := ⟨22, true, by decide +kernel, by decide +kernel⟩
theorem D159_17 : decode (mB 159) 17 = .ok (.iload_n 1, 1) := by decide +kernel
theorem D159_18 : decode (mB 159) 18 = .ok (.iaload, 1) := by decide +kernel
theorem D159_19 : BR 159 19 (.goto 4) (4) 23 := ⟨by decide +kernel, by decide, by decide⟩
theorem D159_23 : decode (mB 159) 23 = .ok (.istore_n 2, 1) := by decide +kernel
theorem D159_24 : decode (mB 159) 24 = .ok (.iload_n 2, 1) := by decide +kernel
theorem D159_25 : BR 159 25 (.ifCond .lt 21) (21) 46 := ⟨by decide +kernel, by decide, by decide⟩
theorem D159_46 : decode (mB 159) 46 = .ok (.iconst (-1), 1) := by decide +kernel
theorem D159_47 : decode (mB 159) 47 = .ok (.ireturn, 1) := by decide +kernel
theorem D159_28 : decode (mB 159) 28 = .ok (.iload_n 2, 1) := by decide +kernel
theorem D159_29 : decode (mB 159) 29 = .ok (.aload_n 0, 1) := by decide +kernel
theorem D159_30 : GF 159 30 5 0 2 := ⟨9, true, by decide +kernel, by decide +kernel⟩
theorem D159_33 : decode (mB 159) 33 = .ok (.arraylength, 1) := by decide +kernel
theorem D159_34 : BR 159 34 (.if_icmp .ge 12) (12) 46 := ⟨by decide +kernel, by decide, by decide⟩
theorem D159_37 : decode (mB 159) 37 = .ok (.aload_n 0, 1) := by decide +kernel
theorem D159_38 : GF 159 38 5 0 2 := ⟨9, true, by decide +kernel, by decide +kernel⟩
theorem D159_41 : decode (mB 159) 41 = .ok (.iload_n 2, 1) := by decide +kernel
theorem D159_42 : decode (mB 159) 42 = .ok (.iaload, 1) := by decide +kernel
theorem D159_43 : BR 159 43 (.goto 4) (4) 47 := ⟨by decide +kernel, by decide, by decide⟩
theorem Se_minute_e (d : Nat) (a0 : Nat) (x1 : Int32) (m : eM) (h_a0 : kd a0 = 5) : Se_minute d a0 x1 m = if x1 < 0 then (Se_minute_23 d a0 x1 (-1 : Int32) m) else (bR (gR m a0 3) fun r1 => gl r1 (if ((aln m r1).toInt32) ≤ x1 then (Se_minute_23 d a0 x1 (-1 : Int32) m) else (bR (gR m a0 3) fun r2 => ga m r2 20 x1 (Se_minute_23 d a0 x1 (gI m r2 x1.toNatClampNeg) m)))) := by
  unfold Se_minute
  refine (x_iload1 D159_0 rfl).trans ?_
  refine (x_iflt D159_1).trans (i_c ?_ ?_)
  · refine (x_iconst D159_22 (k := -1) (by decide)).trans ?_
    rfl
  · refine (x_iload1 D159_4 rfl).trans ?_
    refine (x_aload1 D159_5 rfl).trans ?_
    refine ((x_getR D159_6).trans (gd_t h_a0)).trans (bR_c fun r1 => ?_)
    refine (x_alen D159_9).trans (gl_c ?_)
    refine (x_cge D159_10).trans (i_c ?_ ?_)
    · refine (x_iconst D159_22 (k := -1) (by decide)).trans ?_
      rfl
    · refine (x_aload1 D159_13 rfl).trans ?_
      refine ((x_getR D159_14).trans (gd_t h_a0)).trans (bR_c fun r2 => ?_)
      refine (x_iload1 D159_17 rfl).trans ?_
      refine (x_iaload D159_18).trans (ga_c ?_)
      refine (x_goto D159_19).trans ?_
      rfl
theorem Se_minute_23_e (d : Nat) (a0 : Nat) (x1 : Int32) (p0 : Int32) (m : eM) (h_a0 : kd a0 = 5) : Se_minute_23 d a0 x1 p0 m = if p0 < 0 then (yI (-1 : Int32) m) else (bR (gR m a0 0) fun r1 => gl r1 (if ((aln m r1).toInt32) ≤ p0 then (yI (-1 : Int32) m) else (bR (gR m a0 0) fun r2 => ga m r2 20 p0 (yI (gI m r2 p0.toNatClampNeg) m)))) := by
  unfold Se_minute_23
  refine (x_istore1 D159_23 (ls' := [.ref a0, .int x1, .int p0]) rfl rfl).trans ?_
  refine (x_iload1 D159_24 rfl).trans ?_
  refine (x_iflt D159_25).trans (i_c ?_ ?_)
  · refine (x_iconst D159_46 (k := -1) (by decide)).trans ?_
    exact x_iret D159_47 M159.2.2.1
  · refine (x_iload1 D159_28 rfl).trans ?_
    refine (x_aload1 D159_29 rfl).trans ?_
    refine ((x_getR D159_30).trans (gd_t h_a0)).trans (bR_c fun r1 => ?_)
    refine (x_alen D159_33).trans (gl_c ?_)
    refine (x_cge D159_34).trans (i_c ?_ ?_)
    · refine (x_iconst D159_46 (k := -1) (by decide)).trans ?_
      exact x_iret D159_47 M159.2.2.1
    · refine (x_aload1 D159_37 rfl).trans ?_
      refine ((x_getR D159_38).trans (gd_t h_a0)).trans (bR_c fun r2 => ?_)
      refine (x_iload1 D159_41 rfl).trans ?_
      refine (x_iaload D159_42).trans (ga_c ?_)
      refine (x_goto D159_43).trans ?_
      exact x_iret D159_47 M159.2.2.1
theorem D162_0 : decode (mB 162) 0 = .ok (.aload_n 0, 1) := by decide +kernel
theorem D162_1 : decode (mB 162) 1 = .ok (.iconst 0, 1) := by decide +kernel
theorem D162_2 : PF 162 2 1 2 0 := ⟨18, false, by decide +kernel, by decide +kernel, by decide +kernel, by decide⟩
theorem D162_5 : decode (mB 162) 5 = .ok (.aload_n 0, 1) := by decide +kernel
theorem D162_6 : decode (mB 162) 6 = .ok (.iconst 0, 1) := by decide +kernel
theorem D162_7 : decode (mB 162) 7 = .ok (.iconst (-1), 1) := by decide +kernel
theorem D162_8 : CS 162 8 163 0 := ⟨.invokevirtual 22, by decide +kernel, by decide +kernel, by decide +kernel, by decide⟩
theorem D162_11 : decode (mB 162) 11 = .ok (.iconst 0, 1) := by decide +kernel
theorem D162_12 : decode (mB 162) 12 = .ok (.istore_n 3, 1) := by decide +kernel
theorem D162_13 : decode (mB 162) 13 = .ok (.iload_n 3, 1) := by decide +kernel
theorem D162_14 : decode (mB 162) 14 = .ok (.aload_n 1, 1) := by decide +kernel
theorem D162_15 : GF 162 15 6 1 2 := ⟨26, true, by decide +kernel, by decide +kernel⟩
theorem D162_18 : CS 162 18 70 0 := ⟨.invokevirtual 32, by decide +kernel, by decide +kernel, by decide +kernel, by decide⟩
theorem D162_21 : BR 162 21 (.if_icmp .ge 71) (71) 92 := ⟨by decide +kernel, by decide, by decide⟩
theorem D162_92 : decode (mB 162) 92 = .ok (.return_, 1) := by decide +kernel
theorem D162_24 : decode (mB 162) 24 = .ok (.aload_n 1, 1) := by decide +kernel
theorem D162_25 : GF 162 25 6 1 2 := ⟨26, true, by decide +kernel, by decide +kernel⟩
theorem D162_28 : decode (mB 162) 28 = .ok (.iload_n 3, 1) := by decide +kernel
theorem D162_29 : CS 162 29 72 0 := ⟨.invokevirtual 37, by decide +kernel, by decide +kernel, by decide +kernel, by decide⟩
theorem D162_32 : decode (mB 162) 32 = .ok (.aload_n 1, 1) := by decide +kernel
theorem D162_33 : GF 162 33 6 0 2 := ⟨41, false, by decide +kernel, by decide +kernel⟩
theorem D162_36 : decode (mB 162) 36 = .ok (.iload_n 2, 1) := by decide +kernel
theorem D162_37 : CS 162 37 103 0 := ⟨.invokevirtual 45, by decide +kernel, by decide +kernel, by decide +kernel, by decide⟩
theorem D162_40 : decode (mB 162) 40 = .ok (.iadd, 1) := by decide +kernel
theorem D162_41 : decode (mB 162) 41 = .ok (.istore 4, 2) := by decide +kernel
theorem D162_43 : decode (mB 162) 43 = .ok (.aload_n 1, 1) := by decide +kernel
theorem D162_44 : GF 162 44 6 1 2 := ⟨26, true, by decide +kernel, by decide +kernel⟩
theorem D162_47 : decode (mB 162) 47 = .ok (.aload_n 1, 1) := by decide +kernel
theorem D162_48 : GF 162 48 6 0 2 := ⟨41, false, by decide +kernel, by decide +kernel⟩
theorem D162_51 : decode (mB 162) 51 = .ok (.iload_n 2, 1) := by decide +kernel
theorem D162_52 : decode (mB 162) 52 = .ok (.iload 4, 2) := by decide +kernel
theorem D162_54 : decode (mB 162) 54 = .ok (.aload_n 1, 1) := by decide +kernel
theorem D162_55 : GF 162 55 6 5 0 := ⟨50, false, by decide +kernel, by decide +kernel⟩
theorem D162_58 : CS 162 58 117 0 := ⟨.invokevirtual 53, by decide +kernel, by decide +kernel, by decide +kernel, by decide⟩
theorem D162_61 : decode (mB 162) 61 = .ok (.istore 5, 2) := by decide +kernel
theorem D162_63 : decode (mB 162) 63 = .ok (.iload 5, 2) := by decide +kernel
theorem D162_65 : decode (mB 162) 65 = .ok (.aload_n 0, 1) := by decide +kernel
theorem D162_66 : decode (mB 162) 66 = .ok (.aload_n 0, 1) := by decide +kernel
theorem D162_67 : GF 162 67 1 2 0 := ⟨18, false, by decide +kernel, by decide +kernel⟩
theorem D162_70 : decode (mB 162) 70 = .ok (.iconst 1, 1) := by decide +kernel
theorem D162_71 : decode (mB 162) 71 = .ok (.isub, 1) := by decide +kernel
theorem D162_72 : CS 162 72 164 0 := ⟨.invokevirtual 57, by decide +kernel, by decide +kernel, by decide +kernel, by decide⟩
theorem D162_75 : BR 162 75 (.if_icmp .eq 11) (11) 86 := ⟨by decide +kernel, by decide, by decide⟩
theorem D162_86 : decode (mB 162) 86 = .ok (.iinc 3 1, 3) := by decide +kernel
theorem D162_89 : BR 162 89 (.goto (-76)) (-76) 13 := ⟨by decide +kernel, by decide, by decide⟩
theorem D162_78 : decode (mB 162) 78 = .ok (.aload_n 0, 1) := by decide +kernel
theorem D162_79 : decode (mB 162) 79 = .ok (.iload 4, 2) := by decide +kernel
theorem D162_81 : decode (mB 162) 81 = .ok (.iload 5, 2) := by decide +kernel
theorem D162_83 : CS 162 83 163 0 := ⟨.invokevirtual 22, by decide +kernel, by decide +kernel, by decide +kernel, by decide⟩
theorem Co_follow_e (d : Nat) (a0 : Nat) (a1 : Nat) (x2 : Int32) (m : eM) (h_a0 : kd a0 = 1) (h_a1 : kd a1 = 6) : Co_follow (d + 1) a0 a1 x2 m = mI m a0 2 (0 : Int32) fun m1 => bV (Co_add d a0 (0 : Int32) (-1 : Int32) m1) fun m2 => Co_follow_13 (d + 1) a0 a1 x2 (0 : Int32) eU eU m2 := by
  unfold Co_follow
  refine (x_aload1 D162_0 rfl).trans ?_
  refine (x_iconst D162_1 (k := 0) (by decide)).trans ?_
  refine (x_putI D162_2 h_a0).trans ?_
  refine mI_i (fun m1 => X (d + 1) 162 5 [.ref a0, .ref a1, .int x2, eU, eU, eU] [] m1) _ ?_
  intro m1
  refine (x_aload1 D162_5 rfl).trans ?_
  refine (x_iconst D162_6 (k := 0) (by decide)).trans ?_
  refine (x_iconst D162_7 (k := -1) (by decide)).trans ?_
  refine (x_cV D162_8 M163  (I163 _ _ _) rfl rfl (ok_i M163 (I163 _ _ _) rfl rfl h_a0)).trans (bV_c fun m2 => ?_)
  refine (x_iconst D162_11 (k := 0) (by decide)).trans ?_
  refine (x_istore1 D162_12 (ls' := [.ref a0, .ref a1, .int x2, .int (0 : Int32), eU, eU]) rfl rfl).trans ?_
  rfl
theorem Co_follow_13_e (d : Nat) (a0 : Nat) (a1 : Nat) (x2 : Int32) (x3 : Int32) (w4 : Value) (w5 : Value) (m : eM) (h_a0 : kd a0 = 1) (h_a1 : kd a1 = 6) : Co_follow_13 (d + 1) a0 a1 x2 x3 w4 w5 m = bR (gR m a1 1) fun r1 => gd r1 7 (bI (Tk_size d r1 m) fun v4 m3 => if v4 ≤ x3 then (yV m3) else (bR (gR m3 a1 1) fun r5 => gd r5 7 (bI (Tk_minute d r5 x3 m3) fun v8 m7 => bR (gR m7 a1 0) fun r9 => gd r9 4 (bI (Pa_late d r9 x2 m7) fun v12 m11 => bR (gR m11 a1 1) fun r13 => bR (gR m11 a1 0) fun r14 => gd r13 7 (bI (Tk_lastLiar d r13 r14 x2 (v8 + v12) (gI m11 a1 5) m11) fun v17 m16 => bI (Co_whom d a0 ((gI m16 a0 2) - (1 : Int32)) m16) fun v19 m18 => if v17 = v19 then (Co_follow_13 (d + 1) a0 a1 x2 (x3 + (1 : Int32)) (.int (v8 + v12)) (.int v17) m18) else (bV (Co_add d a0 (v8 + v12) v17 m18) fun m20 => Co_follow_13 (d + 1) a0 a1 x2 (x3 + (1 : Int32)) (.int (v8 + v12)) (.int v17) m20)))))) := by
  unfold Co_follow_13
  refine (x_iload1 D162_13 rfl).trans ?_
  refine (x_aload1 D162_14 rfl).trans ?_
  refine ((x_getR D162_15).trans (gd_t h_a1)).trans (bR_c fun r1 => ?_)
  refine (x_cg D162_18 M70 rfl rfl).trans (gd_c fun h2 => ?_)
  refine (x_cI D162_18 M70 (fun z => by cases z) (I70 _) rfl rfl (ok_i M70 (I70 _) rfl rfl h2)).trans (bI_c fun v4 m3 => ?_)
  refine (x_cge D162_21).trans (i_c ?_ ?_)
  · exact x_vret D162_92 M162.2.2.1
  · refine (x_aload1 D162_24 rfl).trans ?_
    refine ((x_getR D162_25).trans (gd_t h_a1)).trans (bR_c fun r5 => ?_)
    refine (x_iload1 D162_28 rfl).trans ?_
    refine (x_cg D162_29 M72 rfl rfl).trans (gd_c fun h6 => ?_)
    refine (x_cI D162_29 M72 (fun z => by cases z) (I72 _ _) rfl rfl (ok_i M72 (I72 _ _) rfl rfl h6)).trans (bI_c fun v8 m7 => ?_)
    refine (x_aload1 D162_32 rfl).trans ?_
    refine ((x_getR D162_33).trans (gd_t h_a1)).trans (bR_c fun r9 => ?_)
    refine (x_iload1 D162_36 rfl).trans ?_
    refine (x_cg D162_37 M103 rfl rfl).trans (gd_c fun h10 => ?_)
    refine (x_cI D162_37 M103 (fun z => by cases z) (I103 _ _) rfl rfl (ok_i M103 (I103 _ _) rfl rfl h10)).trans (bI_c fun v12 m11 => ?_)
    refine (x_iadd D162_40).trans ?_
    refine (x_istore2 D162_41 (ls' := [.ref a0, .ref a1, .int x2, .int x3, .int (v8 + v12), w5]) rfl rfl).trans ?_
    refine (x_aload1 D162_43 rfl).trans ?_
    refine ((x_getR D162_44).trans (gd_t h_a1)).trans (bR_c fun r13 => ?_)
    refine (x_aload1 D162_47 rfl).trans ?_
    refine ((x_getR D162_48).trans (gd_t h_a1)).trans (bR_c fun r14 => ?_)
    refine (x_iload1 D162_51 rfl).trans ?_
    refine (x_iload2 D162_52 rfl).trans ?_
    refine (x_aload1 D162_54 rfl).trans ?_
    refine ((x_getI D162_55).trans (gd_t h_a1)).trans ?_
    refine (x_cg D162_58 M117 rfl rfl).trans (gd_c fun h15 => ?_)
    refine (x_cI D162_58 M117 (fun z => by cases z) (I117 _ _ _ _ _) rfl rfl (ok_i M117 (I117 _ _ _ _ _) rfl rfl h15)).trans (bI_c fun v17 m16 => ?_)
    refine (x_istore2 D162_61 (ls' := [.ref a0, .ref a1, .int x2, .int x3, .int (v8 + v12), .int v17]) rfl rfl).trans ?_
    refine (x_iload2 D162_63 rfl).trans ?_
    refine (x_aload1 D162_65 rfl).trans ?_
    refine (x_aload1 D162_66 rfl).trans ?_
    refine ((x_getI D162_67).trans (gd_t h_a0)).trans ?_
    refine (x_iconst D162_70 (k := 1) (by decide)).trans ?_
    refine (x_isub D162_71).trans ?_
    refine (x_cI D162_72 M164 (fun z => by cases z) (I164 _ _) rfl rfl (ok_i M164 (I164 _ _) rfl rfl h_a0)).trans (bI_c fun v19 m18 => ?_)
    refine (x_ceq D162_75).trans (i_c ?_ ?_)
    · refine (x_iinc D162_86 rfl (k := 1) (by decide) (ls' := [.ref a0, .ref a1, .int x2, .int (x3 + (1 : Int32)), .int (v8 + v12), .int v17]) rfl).trans ?_
      refine (x_goto D162_89).trans ?_
      rfl
    · refine (x_aload1 D162_78 rfl).trans ?_
      refine (x_iload2 D162_79 rfl).trans ?_
      refine (x_iload2 D162_81 rfl).trans ?_
      refine (x_cV D162_83 M163  (I163 _ _ _) rfl rfl (ok_i M163 (I163 _ _ _) rfl rfl h_a0)).trans (bV_c fun m20 => ?_)
      refine (x_iinc D162_86 rfl (k := 1) (by decide) (ls' := [.ref a0, .ref a1, .int x2, .int (x3 + (1 : Int32)), .int (v8 + v12), .int v17]) rfl).trans ?_
      refine (x_goto D162_89).trans ?_
      rfl
theorem D163_0 : decode (mB 163) 0 = .ok (.aload_n 0, 1) := by decide +kernel
theorem D163_1 : GF 163 1 1 2 0 := ⟨18, false, by decide +kernel, by decide +kernel⟩
theorem D163_4 : BR 163 4 (.ifCond .lt 57) (57) 61 := ⟨by decide +kernel, by decide, by decide⟩
theorem D163_61 : decode (mB 163) 61 = .ok (.return_, 1) := by decide +kernel
theorem D163_7 : decode (mB 163) 7 = .ok (.aload_n 0, 1) := by decide +kernel
theorem D163_8 : GF 163 8 1 2 0 := ⟨18, false, by decide +kernel, by decide +kernel⟩
theorem D163_11 : decode (mB 163) 11 = .ok (.aload_n 0, 1) := by decide +kernel
theorem D163_12 : GF 163 12 1 0 2 := ⟨11, true, by decide +kernel, by decide +kernel⟩
theorem D163_15 : decode (mB 163) 15 = .ok (.arraylength, 1) := by decide +kernel
theorem D163_16 : BR 163 16 (.if_icmp .ge 45) (45) 61 := ⟨by decide +kernel, by decide, by decide⟩
theorem D163_19 : decode (mB 163) 19 = .ok (.aload_n 0, 1) := by decide +kernel
theorem D163_20 : GF 163 20 1 2 0 := ⟨18, false, by decide +kernel, by decide +kernel⟩
theorem D163_23 : decode (mB 163) 23 = .ok (.aload_n 0, 1) := by decide +kernel
theorem D163_24 : GF 163 24 1 1 2 := ⟨15, true, by decide +kernel, by decide +kernel⟩
theorem D163_27 : decode (mB 163) 27 = .ok (.arraylength, 1) := by decide +kernel
theorem D163_28 : BR 163 28 (.if_icmp .ge 33) (33) 61 := ⟨by decide +kernel, by decide, by decide⟩
theorem D163_31 : decode (mB 163) 31 = .ok (.aload_n 0, 1) := by decide +kernel
theorem D163_32 : GF 163 32 1 0 2 := ⟨11, true, by decide +kernel, by decide +kernel⟩
theorem D163_35 : decode (mB 163) 35 = .ok (.aload_n 0, 1) := by decide +kernel
theorem D163_36 : GF 163 36 1 2 0 := ⟨18, false, by decide +kernel, by decide +kernel⟩
theorem D163_39 : decode (mB 163) 39 = .ok (.iload_n 1, 1) := by decide +kernel
theorem D163_40 : decode (mB 163) 40 = .ok (.iastore, 1) := by decide +kernel
theorem D163_41 : decode (mB 163) 41 = .ok (.aload_n 0, 1) := by decide +kernel
theorem D163_42 : GF 163 42 1 1 2 := ⟨15, true, by decide +kernel, by decide +kernel⟩
theorem D163_45 : decode (mB 163) 45 = .ok (.aload_n 0, 1) := by decide +kernel
theorem D163_46 : GF 163 46 1 2 0 := ⟨18, false, by decide +kernel, by decide +kernel⟩
theorem D163_49 : decode (mB 163) 49 = .ok (.iload_n 2, 1) := by decide +kernel
theorem D163_50 : decode (mB 163) 50 = .ok (.iastore, 1) := by decide +kernel
theorem D163_51 : decode (mB 163) 51 = .ok (.aload_n 0, 1) := by decide +kernel
theorem D163_52 : decode (mB 163) 52 = .ok (.dup, 1) := by decide +kernel
theorem D163_53 : GF 163 53 1 2 0 := ⟨18, false, by decide +kernel, by decide +kernel⟩
theorem D163_56 : decode (mB 163) 56 = .ok (.iconst 1, 1) := by decide +kernel
theorem D163_57 : decode (mB 163) 57 = .ok (.iadd, 1) := by decide +kernel
theorem D163_58 : PF 163 58 1 2 0 := ⟨18, false, by decide +kernel, by decide +kernel, by decide +kernel, by decide⟩
theorem Co_add_e (d : Nat) (a0 : Nat) (x1 : Int32) (x2 : Int32) (m : eM) (h_a0 : kd a0 = 1) : Co_add d a0 x1 x2 m = if (gI m a0 2) < 0 then (yV m) else (bR (gR m a0 0) fun r1 => gl r1 (if ((aln m r1).toInt32) ≤ (gI m a0 2) then (yV m) else (bR (gR m a0 1) fun r2 => gl r2 (if ((aln m r2).toInt32) ≤ (gI m a0 2) then (yV m) else (bR (gR m a0 0) fun r3 => gw m r3 20 (gI m a0 2) (mI m r3 (gI m a0 2).toNatClampNeg x1 fun m4 => bR (gR m4 a0 1) fun r5 => gw m4 r5 20 (gI m4 a0 2) (mI m4 r5 (gI m4 a0 2).toNatClampNeg x2 fun m6 => mI m6 a0 2 ((gI m6 a0 2) + (1 : Int32)) fun m7 => yV m7))))))) := by
  unfold Co_add
  refine (x_aload1 D163_0 rfl).trans ?_
  refine ((x_getI D163_1).trans (gd_t h_a0)).trans ?_
  refine (x_iflt D163_4).trans (i_c ?_ ?_)
  · exact x_vret D163_61 M163.2.2.1
  · refine (x_aload1 D163_7 rfl).trans ?_
    refine ((x_getI D163_8).trans (gd_t h_a0)).trans ?_
    refine (x_aload1 D163_11 rfl).trans ?_
    refine ((x_getR D163_12).trans (gd_t h_a0)).trans (bR_c fun r1 => ?_)
    refine (x_alen D163_15).trans (gl_c ?_)
    refine (x_cge D163_16).trans (i_c ?_ ?_)
    · exact x_vret D163_61 M163.2.2.1
    · refine (x_aload1 D163_19 rfl).trans ?_
      refine ((x_getI D163_20).trans (gd_t h_a0)).trans ?_
      refine (x_aload1 D163_23 rfl).trans ?_
      refine ((x_getR D163_24).trans (gd_t h_a0)).trans (bR_c fun r2 => ?_)
      refine (x_alen D163_27).trans (gl_c ?_)
      refine (x_cge D163_28).trans (i_c ?_ ?_)
      · exact x_vret D163_61 M163.2.2.1
      · refine (x_aload1 D163_31 rfl).trans ?_
        refine ((x_getR D163_32).trans (gd_t h_a0)).trans (bR_c fun r3 => ?_)
        refine (x_aload1 D163_35 rfl).trans ?_
        refine ((x_getI D163_36).trans (gd_t h_a0)).trans ?_
        refine (x_iload1 D163_39 rfl).trans ?_
        refine (x_iastore D163_40).trans (gw_c ?_)
        refine mI_i (fun m4 => X d 163 41 [.ref a0, .int x1, .int x2] [] m4) _ ?_
        intro m4
        refine (x_aload1 D163_41 rfl).trans ?_
        refine ((x_getR D163_42).trans (gd_t h_a0)).trans (bR_c fun r5 => ?_)
        refine (x_aload1 D163_45 rfl).trans ?_
        refine ((x_getI D163_46).trans (gd_t h_a0)).trans ?_
        refine (x_iload1 D163_49 rfl).trans ?_
        refine (x_iastore D163_50).trans (gw_c ?_)
        refine mI_i (fun m6 => X d 163 51 [.ref a0, .int x1, .int x2] [] m6) _ ?_
        intro m6
        refine (x_aload1 D163_51 rfl).trans ?_
        refine (x_dup1 D163_52 rfl).trans ?_
        refine ((x_getI D163_53).trans (gd_t h_a0)).trans ?_
        refine (x_iconst D163_56 (k := 1) (by decide)).trans ?_
        refine (x_iadd D163_57).trans ?_
        refine (x_putI D163_58 h_a0).trans ?_
        refine mI_i (fun m7 => X d 163 61 [.ref a0, .int x1, .int x2] [] m7) _ ?_
        intro m7
        exact x_vret D163_61 M163.2.2.1
theorem D164_0 : decode (mB 164) 0 = .ok (.iload_n 1, 1) := by decide +kernel
theorem D164_1 : BR 164 1 (.ifCond .lt 29) (29) 30 := ⟨by decide +kernel, by decide, by decide⟩
theorem D164_30 : decode (mB 164) 30 = .ok (.iconst (-1), 1) := by decide +kernel
theorem D164_31 : decode (mB 164) 31 = .ok (.ireturn, 1) := by decide +kernel
theorem D164_4 : decode (mB 164) 4 = .ok (.iload_n 1, 1) := by decide +kernel
theorem D164_5 : decode (mB 164) 5 = .ok (.aload_n 0, 1) := by decide +kernel
theorem D164_6 : GF 164 6 1 2 0 := ⟨18, false, by decide +kernel, by decide +kernel⟩
theorem D164_9 : BR 164 9 (.if_icmp .ge 21) (21) 30 := ⟨by decide +kernel, by decide, by decide⟩
theorem D164_12 : decode (mB 164) 12 = .ok (.iload_n 1, 1) := by decide +kernel
theorem D164_13 : decode (mB 164) 13 = .ok (.aload_n 0, 1) := by decide +kernel
theorem D164_14 : GF 164 14 1 1 2 := ⟨15, true, by decide +kernel, by decide +kernel⟩
theorem D164_17 : decode (mB 164) 17 = .ok (.arraylength, 1) := by decide +kernel
theorem D164_18 : BR 164 18 (.if_icmp .ge 12) (12) 30 := ⟨by decide +kernel, by decide, by decide⟩
theorem D164_21 : decode (mB 164) 21 = .ok (.aload_n 0, 1) := by decide +kernel
theorem D164_22 : GF 164 22 1 1 2 := ⟨15, true, by decide +kernel, by decide +kernel⟩
theorem D164_25 : decode (mB 164) 25 = .ok (.iload_n 1, 1) := by decide +kernel
theorem D164_26 : decode (mB 164) 26 = .ok (.iaload, 1) := by decide +kernel
theorem D164_27 : BR 164 27 (.goto 4) (4) 31 := ⟨by decide +kernel, by decide, by decide⟩
theorem Co_whom_e (d : Nat) (a0 : Nat) (x1 : Int32) (m : eM) (h_a0 : kd a0 = 1) : Co_whom d a0 x1 m = if x1 < 0 then (yI (-1 : Int32) m) else (if (gI m a0 2) ≤ x1 then (yI (-1 : Int32) m) else (bR (gR m a0 1) fun r1 => gl r1 (if ((aln m r1).toInt32) ≤ x1 then (yI (-1 : Int32) m) else (bR (gR m a0 1) fun r2 => ga m r2 20 x1 (yI (gI m r2 x1.toNatClampNeg) m))))) := by
  unfold Co_whom
  refine (x_iload1 D164_0 rfl).trans ?_
  refine (x_iflt D164_1).trans (i_c ?_ ?_)
  · refine (x_iconst D164_30 (k := -1) (by decide)).trans ?_
    exact x_iret D164_31 M164.2.2.1
  · refine (x_iload1 D164_4 rfl).trans ?_
    refine (x_aload1 D164_5 rfl).trans ?_
    refine ((x_getI D164_6).trans (gd_t h_a0)).trans ?_
    refine (x_cge D164_9).trans (i_c ?_ ?_)
    · refine (x_iconst D164_30 (k := -1) (by decide)).trans ?_
      exact x_iret D164_31 M164.2.2.1
    · refine (x_iload1 D164_12 rfl).trans ?_
      refine (x_aload1 D164_13 rfl).trans ?_
      refine ((x_getR D164_14).trans (gd_t h_a0)).trans (bR_c fun r1 => ?_)
      refine (x_alen D164_17).trans (gl_c ?_)
      refine (x_cge D164_18).trans (i_c ?_ ?_)
      · refine (x_iconst D164_30 (k := -1) (by decide)).trans ?_
        exact x_iret D164_31 M164.2.2.1
      · refine (x_aload1 D164_21 rfl).trans ?_
        refine ((x_getR D164_22).trans (gd_t h_a0)).trans (bR_c fun r2 => ?_)
        refine (x_iload1 D164_25 rfl).trans ?_
        refine (x_iaload D164_26).trans (ga_c ?_)
        refine (x_goto D164_27).trans ?_
        exact x_iret D164_31 M164.2.2.1
theorem D165_0 : decode (mB 165) 0 = .ok (.iconst 0, 1) := by decide +kernel
theorem D165_1 : decode (mB 165) 1 = .ok (.istore_n 2, 1) := by decide +kernel
theorem D165_2 : decode (mB 165) 2 = .ok (.iconst 1, 1) := by decide +kernel
theorem D165_3 : decode (mB 165) 3 = .ok (.istore_n 3, 1) := by decide +kernel
theorem D165_4 : decode (mB 165) 4 = .ok (.iload_n 3, 1) := by decide +kernel
theorem D165_5 : decode (mB 165) 5 = .ok (.aload_n 0, 1) := by decide +kernel
theorem D165_6 : GF 165 6 1 2 0 := ⟨18, false, by decide +kernel, by decide +kernel⟩
theorem D165_9 : BR 165 9 (.if_icmp .ge 26) (26) 35 := ⟨by decide +kernel, by decide, by decide⟩
theorem D165_35 : decode (mB 165) 35 = .ok (.iload_n 2, 1) := by decide +kernel
theorem D165_36 : decode (mB 165) 36 = .ok (.ireturn, 1) := by decide +kernel
theorem D165_12 : decode (mB 165) 12 = .ok (.iload_n 2, 1) := by decide +kernel
theorem D165_13 : decode (mB 165) 13 = .ok (.aload_n 0, 1) := by decide +kernel
theorem D165_14 : decode (mB 165) 14 = .ok (.iload_n 3, 1) := by decide +kernel
theorem D165_15 : CS 165 15 166 0 := ⟨.invokevirtual 59, by decide +kernel, by decide +kernel, by decide +kernel, by decide⟩
theorem D165_18 : decode (mB 165) 18 = .ok (.iload_n 1, 1) := by decide +kernel
theorem D165_19 : BR 165 19 (.if_icmp .gt 7) (7) 26 := ⟨by decide +kernel, by decide, by decide⟩
theorem D165_26 : decode (mB 165) 26 = .ok (.iconst 0, 1) := by decide +kernel
theorem D165_27 : decode (mB 165) 27 = .ok (.iadd, 1) := by decide +kernel
theorem D165_28 : decode (mB 165) 28 = .ok (.istore_n 2, 1) := by decide +kernel
theorem D165_29 : decode (mB 165) 29 = .ok (.iinc 3 1, 3) := by decide +kernel
theorem D165_32 : BR 165 32 (.goto (-28)) (-28) 4 := ⟨by decide +kernel, by decide, by decide⟩
theorem D165_22 : decode (mB 165) 22 = .ok (.iconst 1, 1) := by decide +kernel
theorem D165_23 : BR 165 23 (.goto 4) (4) 27 := ⟨by decide +kernel, by decide, by decide⟩
theorem Co_turns_e (d : Nat) (a0 : Nat) (x1 : Int32) (m : eM) (h_a0 : kd a0 = 1) : Co_turns (d + 1) a0 x1 m = Co_turns_4 (d + 1) a0 x1 (0 : Int32) (1 : Int32) m := by
  unfold Co_turns
  refine (x_iconst D165_0 (k := 0) (by decide)).trans ?_
  refine (x_istore1 D165_1 (ls' := [.ref a0, .int x1, .int (0 : Int32), eU]) rfl rfl).trans ?_
  refine (x_iconst D165_2 (k := 1) (by decide)).trans ?_
  refine (x_istore1 D165_3 (ls' := [.ref a0, .int x1, .int (0 : Int32), .int (1 : Int32)]) rfl rfl).trans ?_
  rfl
theorem Co_turns_4_e (d : Nat) (a0 : Nat) (x1 : Int32) (x2 : Int32) (x3 : Int32) (m : eM) (h_a0 : kd a0 = 1) : Co_turns_4 (d + 1) a0 x1 x2 x3 m = if (gI m a0 2) ≤ x3 then (yI x2 m) else (bI (Co_start d a0 x3 m) fun v2 m1 => if x1 < v2 then (Co_turns_4 (d + 1) a0 x1 (x2 + (0 : Int32)) (x3 + (1 : Int32)) m1) else (Co_turns_4 (d + 1) a0 x1 (x2 + (1 : Int32)) (x3 + (1 : Int32)) m1)) := by
  unfold Co_turns_4
  refine (x_iload1 D165_4 rfl).trans ?_
  refine (x_aload1 D165_5 rfl).trans ?_
  refine ((x_getI D165_6).trans (gd_t h_a0)).trans ?_
  refine (x_cge D165_9).trans (i_c ?_ ?_)
  · refine (x_iload1 D165_35 rfl).trans ?_
    exact x_iret D165_36 M165.2.2.1
  · refine (x_iload1 D165_12 rfl).trans ?_
    refine (x_aload1 D165_13 rfl).trans ?_
    refine (x_iload1 D165_14 rfl).trans ?_
    refine (x_cI D165_15 M166 (fun z => by cases z) (I166 _ _) rfl rfl (ok_i M166 (I166 _ _) rfl rfl h_a0)).trans (bI_c fun v2 m1 => ?_)
    refine (x_iload1 D165_18 rfl).trans ?_
    refine (x_cgt D165_19).trans (i_c ?_ ?_)
    · refine (x_iconst D165_26 (k := 0) (by decide)).trans ?_
      refine (x_iadd D165_27).trans ?_
      refine (x_istore1 D165_28 (ls' := [.ref a0, .int x1, .int (x2 + (0 : Int32)), .int x3]) rfl rfl).trans ?_
      refine (x_iinc D165_29 rfl (k := 1) (by decide) (ls' := [.ref a0, .int x1, .int (x2 + (0 : Int32)), .int (x3 + (1 : Int32))]) rfl).trans ?_
      refine (x_goto D165_32).trans ?_
      rfl
    · refine (x_iconst D165_22 (k := 1) (by decide)).trans ?_
      refine (x_goto D165_23).trans ?_
      refine (x_iadd D165_27).trans ?_
      refine (x_istore1 D165_28 (ls' := [.ref a0, .int x1, .int (x2 + (1 : Int32)), .int x3]) rfl rfl).trans ?_
      refine (x_iinc D165_29 rfl (k := 1) (by decide) (ls' := [.ref a0, .int x1, .int (x2 + (1 : Int32)), .int (x3 + (1 : Int32))]) rfl).trans ?_
      refine (x_goto D165_32).trans ?_
      rfl
theorem D166_0 : decode (mB 166) 0 = .ok (.iload_n 1, 1) := by decide +kernel
theorem D166_1 : BR 166 1 (.ifCond .lt 29) (29) 30 := ⟨by decide +kernel, by decide, by decide⟩
theorem D166_30 : decode (mB 166) 30 = .ok (.sipush 1440, 3) := by decide +kernel
theorem D166_33 : decode (mB 166) 33 = .ok (.ireturn, 1) := by decide +kernel
theorem D166_4 : decode (mB 166) 4 = .ok (.iload_n 1, 1) := by decide +kernel
theorem D166_5 : decode (mB 166) 5 = .ok (.aload_n 0, 1) := by decide +kernel
theorem D166_6 : GF 166 6 1 2 0 := ⟨18, false, by decide +kernel, by decide +kernel⟩
theorem D166_9 : BR 166 9 (.if_icmp .ge 21) (21) 30 := ⟨by decide +kernel, by decide, by decide⟩
theorem D166_12 : decode (mB 166) 12 = .ok (.iload_n 1, 1) := by decide +kernel
theorem D166_13 : decode (mB 166) 13 = .ok (.aload_n 0, 1) := by decide +kernel
theorem D166_14 : GF 166 14 1 0 2 := ⟨11, true, by decide +kernel, by decide +kernel⟩
theorem D166_17 : decode (mB 166) 17 = .ok (.arraylength, 1) := by decide +kernel
theorem D166_18 : BR 166 18 (.if_icmp .ge 12) (12) 30 := ⟨by decide +kernel, by decide, by decide⟩
theorem D166_21 : decode (mB 166) 21 = .ok (.aload_n 0, 1) := by decide +kernel
theorem D166_22 : GF 166 22 1 0 2 := ⟨11, true, by decide +kernel, by decide +kernel⟩
theorem D166_25 : decode (mB 166) 25 = .ok (.iload_n 1, 1) := by decide +kernel
theorem D166_26 : decode (mB 166) 26 = .ok (.iaload, 1) := by decide +kernel
theorem D166_27 : BR 166 27 (.goto 6) (6) 33 := ⟨by decide +kernel, by decide, by decide⟩
theorem Co_start_e (d : Nat) (a0 : Nat) (x1 : Int32) (m : eM) (h_a0 : kd a0 = 1) : Co_start d a0 x1 m = if x1 < 0 then (yI (1440 : Int32) m) else (if (gI m a0 2) ≤ x1 then (yI (1440 : Int32) m) else (bR (gR m a0 0) fun r1 => gl r1 (if ((aln m r1).toInt32) ≤ x1 then (yI (1440 : Int32) m) else (bR (gR m a0 0) fun r2 => ga m r2 20 x1 (yI (gI m r2 x1.toNatClampNeg) m))))) := by
  unfold Co_start
  refine (x_iload1 D166_0 rfl).trans ?_
  refine (x_iflt D166_1).trans (i_c ?_ ?_)
  · refine (x_sipush D166_30 (k := 1440) (by decide)).trans ?_
    exact x_iret D166_33 M166.2.2.1
  · refine (x_iload1 D166_4 rfl).trans ?_
    refine (x_aload1 D166_5 rfl).trans ?_
    refine ((x_getI D166_6).trans (gd_t h_a0)).trans ?_
    refine (x_cge D166_9).trans (i_c ?_ ?_)
    · refine (x_sipush D166_30 (k := 1440) (by decide)).trans ?_
      exact x_iret D166_33 M166.2.2.1
    · refine (x_iload1 D166_12 rfl).trans ?_
      refine (x_aload1 D166_13 rfl).trans ?_
      refine ((x_getR D166_14).trans (gd_t h_a0)).trans (bR_c fun r1 => ?_)
      refine (x_alen D166_17).trans (gl_c ?_)
      refine (x_cge D166_18).trans (i_c ?_ ?_)
      · refine (x_sipush D166_30 (k := 1440) (by decide)).trans ?_
        exact x_iret D166_33 M166.2.2.1
      · refine (x_aload1 D166_21 rfl).trans ?_
        refine ((x_getR D166_22).trans (gd_t h_a0)).trans (bR_c fun r2 => ?_)
        refine (x_iload1 D166_25 rfl).trans ?_
        refine (x_iaload D166_26).trans (ga_c ?_)
        refine (x_goto D166_27).trans ?_
        exact x_iret D166_33 M166.2.2.1
theorem D168_0 : decode (mB 168) 0 = .ok (.iconst 0, 1) := by decide +kernel
theorem D168_1 : decode (mB 168) 1 = .ok (.istore 4, 2) := by decide +kernel
theorem D168_3 : decode (mB 168) 3 = .ok (.iconst 0, 1) := by decide +kernel
theorem D168_4 : decode (mB 168) 4 = .ok (.istore 5, 2) := by decide +kernel
theorem D168_6 : decode (mB 168) 6 = .ok (.iload 5, 2) := by decide +kernel
theorem D168_8 : decode (mB 168) 8 = .ok (.aload_n 0, 1) := by decide +kernel
theorem D168_9 : GF 168 9 1 2 0 := ⟨18, false, by decide +kernel, by decide +kernel⟩
theorem D168_12 : BR 168 12 (.if_icmp .ge 36) (36) 48 := ⟨by decide +kernel, by decide, by decide⟩
theorem D168_48 : decode (mB 168) 48 = .ok (.iload 4, 2) := by decide +kernel
theorem D168_50 : decode (mB 168) 50 = .ok (.ireturn, 1) := by decide +kernel
theorem D168_15 : decode (mB 168) 15 = .ok (.iload 4, 2) := by decide +kernel
theorem D168_17 : decode (mB 168) 17 = .ok (.aload_n 0, 1) := by decide +kernel
theorem D168_18 : decode (mB 168) 18 = .ok (.iload 5, 2) := by decide +kernel
theorem D168_20 : CS 168 20 164 0 := ⟨.invokevirtual 57, by decide +kernel, by decide +kernel, by decide +kernel, by decide⟩
theorem D168_23 : decode (mB 168) 23 = .ok (.iload_n 1, 1) := by decide +kernel
theorem D168_24 : BR 168 24 (.if_icmp .ne 14) (14) 38 := ⟨by decide +kernel, by decide, by decide⟩
theorem D168_38 : decode (mB 168) 38 = .ok (.iconst 0, 1) := by decide +kernel
theorem D168_39 : decode (mB 168) 39 = .ok (.iadd, 1) := by decide +kernel
theorem D168_40 : decode (mB 168) 40 = .ok (.istore 4, 2) := by decide +kernel
theorem D168_42 : decode (mB 168) 42 = .ok (.iinc 5 1, 3) := by decide +kernel
theorem D168_45 : BR 168 45 (.goto (-39)) (-39) 6 := ⟨by decide +kernel, by decide, by decide⟩
theorem D168_27 : decode (mB 168) 27 = .ok (.aload_n 0, 1) := by decide +kernel
theorem D168_28 : decode (mB 168) 28 = .ok (.iload 5, 2) := by decide +kernel
theorem D168_30 : decode (mB 168) 30 = .ok (.iload_n 2, 1) := by decide +kernel
theorem D168_31 : decode (mB 168) 31 = .ok (.iload_n 3, 1) := by decide +kernel
theorem D168_32 : CS 168 32 169 0 := ⟨.invokevirtual 77, by decide +kernel, by decide +kernel, by decide +kernel, by decide⟩
theorem D168_35 : BR 168 35 (.goto 4) (4) 39 := ⟨by decide +kernel, by decide, by decide⟩
theorem Co_minutesAt_e (d : Nat) (a0 : Nat) (x1 : Int32) (x2 : Int32) (x3 : Int32) (m : eM) (h_a0 : kd a0 = 1) : Co_minutesAt (d + 1) a0 x1 x2 x3 m = Co_minutesAt_6 (d + 1) a0 x1 x2 x3 (0 : Int32) (0 : Int32) m := by
  unfold Co_minutesAt
  refine (x_iconst D168_0 (k := 0) (by decide)).trans ?_
  refine (x_istore2 D168_1 (ls' := [.ref a0, .int x1, .int x2, .int x3, .int (0 : Int32), eU]) rfl rfl).trans ?_
  refine (x_iconst D168_3 (k := 0) (by decide)).trans ?_
  refine (x_istore2 D168_4 (ls' := [.ref a0, .int x1, .int x2, .int x3, .int (0 : Int32), .int (0 : Int32)]) rfl rfl).trans ?_
  rfl
theorem Co_minutesAt_6_e (d : Nat) (a0 : Nat) (x1 : Int32) (x2 : Int32) (x3 : Int32) (x4 : Int32) (x5 : Int32) (m : eM) (h_a0 : kd a0 = 1) : Co_minutesAt_6 (d + 1) a0 x1 x2 x3 x4 x5 m = if (gI m a0 2) ≤ x5 then (yI x4 m) else (bI (Co_whom d a0 x5 m) fun v2 m1 => if ¬ v2 = x1 then (Co_minutesAt_6 (d + 1) a0 x1 x2 x3 (x4 + (0 : Int32)) (x5 + (1 : Int32)) m1) else (bI (Co_minutesOf d a0 x5 x2 x3 m1) fun v4 m3 => Co_minutesAt_6 (d + 1) a0 x1 x2 x3 (x4 + v4) (x5 + (1 : Int32)) m3)) := by
  unfold Co_minutesAt_6
  refine (x_iload2 D168_6 rfl).trans ?_
  refine (x_aload1 D168_8 rfl).trans ?_
  refine ((x_getI D168_9).trans (gd_t h_a0)).trans ?_
  refine (x_cge D168_12).trans (i_c ?_ ?_)
  · refine (x_iload2 D168_48 rfl).trans ?_
    exact x_iret D168_50 M168.2.2.1
  · refine (x_iload2 D168_15 rfl).trans ?_
    refine (x_aload1 D168_17 rfl).trans ?_
    refine (x_iload2 D168_18 rfl).trans ?_
    refine (x_cI D168_20 M164 (fun z => by cases z) (I164 _ _) rfl rfl (ok_i M164 (I164 _ _) rfl rfl h_a0)).trans (bI_c fun v2 m1 => ?_)
    refine (x_iload1 D168_23 rfl).trans ?_
    refine (x_cne D168_24).trans (i_c ?_ ?_)
    · refine (x_iconst D168_38 (k := 0) (by decide)).trans ?_
      refine (x_iadd D168_39).trans ?_
      refine (x_istore2 D168_40 (ls' := [.ref a0, .int x1, .int x2, .int x3, .int (x4 + (0 : Int32)), .int x5]) rfl rfl).trans ?_
      refine (x_iinc D168_42 rfl (k := 1) (by decide) (ls' := [.ref a0, .int x1, .int x2, .int x3, .int (x4 + (0 : Int32)), .int (x5 + (1 : Int32))]) rfl).trans ?_
      refine (x_goto D168_45).trans ?_
      rfl
    · refine (x_aload1 D168_27 rfl).trans ?_
      refine (x_iload2 D168_28 rfl).trans ?_
      refine (x_iload1 D168_30 rfl).trans ?_
      refine (x_iload1 D168_31 rfl).trans ?_
      refine (x_cI D168_32 M169 (fun z => by cases z) (I169 _ _ _ _) rfl rfl (ok_i M169 (I169 _ _ _ _) rfl rfl h_a0)).trans (bI_c fun v4 m3 => ?_)
      refine (x_goto D168_35).trans ?_
      refine (x_iadd D168_39).trans ?_
      refine (x_istore2 D168_40 (ls' := [.ref a0, .int x1, .int x2, .int x3, .int (x4 + v4), .int x5]) rfl rfl).trans ?_
      refine (x_iinc D168_42 rfl (k := 1) (by decide) (ls' := [.ref a0, .int x1, .int x2, .int x3, .int (x4 + v4), .int (x5 + (1 : Int32))]) rfl).trans ?_
      refine (x_goto D168_45).trans ?_
      rfl
theorem D169_0 : decode (mB 169) 0 = .ok (.iconst 0, 1) := by decide +kernel
theorem D169_1 : decode (mB 169) 1 = .ok (.aload_n 0, 1) := by decide +kernel
theorem D169_2 : decode (mB 169) 2 = .ok (.iload_n 1, 1) := by decide +kernel
theorem D169_3 : decode (mB 169) 3 = .ok (.iconst 1, 1) := by decide +kernel
theorem D169_4 : decode (mB 169) 4 = .ok (.iadd, 1) := by decide +kernel
theorem D169_5 : CS 169 5 166 0 := ⟨.invokevirtual 59, by decide +kernel, by decide +kernel, by decide +kernel, by decide⟩
theorem D169_8 : decode (mB 169) 8 = .ok (.iconst 1, 1) := by decide +kernel
theorem D169_9 : decode (mB 169) 9 = .ok (.isub, 1) := by decide +kernel
theorem D169_10 : decode (mB 169) 10 = .ok (.iload_n 3, 1) := by decide +kernel
theorem D169_11 : MA 169 11 1 := ⟨62, by decide +kernel, by decide +kernel, by decide +kernel⟩
theorem D169_14 : decode (mB 169) 14 = .ok (.aload_n 0, 1) := by decide +kernel
theorem D169_15 : decode (mB 169) 15 = .ok (.iload_n 1, 1) := by decide +kernel
theorem D169_16 : CS 169 16 166 0 := ⟨.invokevirtual 59, by decide +kernel, by decide +kernel, by decide +kernel, by decide⟩
theorem D169_19 : decode (mB 169) 19 = .ok (.iload_n 2, 1) := by decide +kernel
theorem D169_20 : MA 169 20 0 := ⟨68, by decide +kernel, by decide +kernel, by decide +kernel⟩
theorem D169_23 : decode (mB 169) 23 = .ok (.isub, 1) := by decide +kernel
theorem D169_24 : decode (mB 169) 24 = .ok (.iconst 1, 1) := by decide +kernel
theorem D169_25 : decode (mB 169) 25 = .ok (.iadd, 1) := by decide +kernel
theorem D169_26 : MA 169 26 0 := ⟨68, by decide +kernel, by decide +kernel, by decide +kernel⟩
theorem D169_29 : decode (mB 169) 29 = .ok (.ireturn, 1) := by decide +kernel
theorem Co_minutesOf_e (d : Nat) (a0 : Nat) (x1 : Int32) (x2 : Int32) (x3 : Int32) (m : eM) (h_a0 : kd a0 = 1) : Co_minutesOf (d + 1) a0 x1 x2 x3 m = bI (Co_start d a0 (x1 + (1 : Int32)) m) fun v2 m1 => bI (Co_start d a0 x1 m1) fun v4 m3 => yI (iMax (0 : Int32) (((iMin (v2 - (1 : Int32)) x3) - (iMax v4 x2)) + (1 : Int32))) m3 := by
  unfold Co_minutesOf
  refine (x_iconst D169_0 (k := 0) (by decide)).trans ?_
  refine (x_aload1 D169_1 rfl).trans ?_
  refine (x_iload1 D169_2 rfl).trans ?_
  refine (x_iconst D169_3 (k := 1) (by decide)).trans ?_
  refine (x_iadd D169_4).trans ?_
  refine (x_cI D169_5 M166 (fun z => by cases z) (I166 _ _) rfl rfl (ok_i M166 (I166 _ _) rfl rfl h_a0)).trans (bI_c fun v2 m1 => ?_)
  refine (x_iconst D169_8 (k := 1) (by decide)).trans ?_
  refine (x_isub D169_9).trans ?_
  refine (x_iload1 D169_10 rfl).trans ?_
  refine (x_min D169_11 rfl).trans ?_
  refine (x_aload1 D169_14 rfl).trans ?_
  refine (x_iload1 D169_15 rfl).trans ?_
  refine (x_cI D169_16 M166 (fun z => by cases z) (I166 _ _) rfl rfl (ok_i M166 (I166 _ _) rfl rfl h_a0)).trans (bI_c fun v4 m3 => ?_)
  refine (x_iload1 D169_19 rfl).trans ?_
  refine (x_max D169_20 rfl).trans ?_
  refine (x_isub D169_23).trans ?_
  refine (x_iconst D169_24 (k := 1) (by decide)).trans ?_
  refine (x_iadd D169_25).trans ?_
  refine (x_max D169_26 rfl).trans ?_
  exact x_iret D169_29 M169.2.2.1
theorem D171_0 : decode (mB 171) 0 = .ok (.iconst 0, 1) := by decide +kernel
theorem D171_1 : decode (mB 171) 1 = .ok (.istore_n 3, 1) := by decide +kernel
theorem D171_2 : decode (mB 171) 2 = .ok (.iconst 1, 1) := by decide +kernel
theorem D171_3 : decode (mB 171) 3 = .ok (.istore 4, 2) := by decide +kernel
theorem D171_5 : decode (mB 171) 5 = .ok (.iload 4, 2) := by decide +kernel
theorem D171_7 : decode (mB 171) 7 = .ok (.aload_n 0, 1) := by decide +kernel
theorem D171_8 : GF 171 8 1 2 0 := ⟨18, false, by decide +kernel, by decide +kernel⟩
theorem D171_11 : BR 171 11 (.if_icmp .ge 55) (55) 66 := ⟨by decide +kernel, by decide, by decide⟩
theorem D171_66 : decode (mB 171) 66 = .ok (.iload_n 3, 1) := by decide +kernel
theorem D171_67 : decode (mB 171) 67 = .ok (.ireturn, 1) := by decide +kernel
theorem D171_14 : decode (mB 171) 14 = .ok (.aload_n 1, 1) := by decide +kernel
theorem D171_15 : decode (mB 171) 15 = .ok (.aload_n 0, 1) := by decide +kernel
theorem D171_16 : decode (mB 171) 16 = .ok (.iload 4, 2) := by decide +kernel
theorem D171_18 : decode (mB 171) 18 = .ok (.iconst 1, 1) := by decide +kernel
theorem D171_19 : decode (mB 171) 19 = .ok (.isub, 1) := by decide +kernel
theorem D171_20 : CS 171 20 164 0 := ⟨.invokevirtual 57, by decide +kernel, by decide +kernel, by decide +kernel, by decide⟩
theorem D171_23 : CS 171 23 109 0 := ⟨.invokevirtual 71, by decide +kernel, by decide +kernel, by decide +kernel, by decide⟩
theorem D171_26 : decode (mB 171) 26 = .ok (.aload_n 1, 1) := by decide +kernel
theorem D171_27 : decode (mB 171) 27 = .ok (.aload_n 0, 1) := by decide +kernel
theorem D171_28 : decode (mB 171) 28 = .ok (.iload 4, 2) := by decide +kernel
theorem D171_30 : CS 171 30 164 0 := ⟨.invokevirtual 57, by decide +kernel, by decide +kernel, by decide +kernel, by decide⟩
theorem D171_33 : CS 171 33 109 0 := ⟨.invokevirtual 71, by decide +kernel, by decide +kernel, by decide +kernel, by decide⟩
theorem D171_36 : CS 171 36 172 2 := ⟨.invokestatic 74, by decide +kernel, by decide +kernel, by decide +kernel, by decide⟩
theorem D171_39 : decode (mB 171) 39 = .ok (.istore 5, 2) := by decide +kernel
theorem D171_41 : decode (mB 171) 41 = .ok (.iload_n 3, 1) := by decide +kernel
theorem D171_42 : decode (mB 171) 42 = .ok (.aload_n 0, 1) := by decide +kernel
theorem D171_43 : decode (mB 171) 43 = .ok (.iload 4, 2) := by decide +kernel
theorem D171_45 : CS 171 45 166 0 := ⟨.invokevirtual 59, by decide +kernel, by decide +kernel, by decide +kernel, by decide⟩
theorem D171_48 : decode (mB 171) 48 = .ok (.iload_n 2, 1) := by decide +kernel
theorem D171_49 : BR 171 49 (.if_icmp .gt 8) (8) 57 := ⟨by decide +kernel, by decide, by decide⟩
theorem D171_57 : decode (mB 171) 57 = .ok (.iconst 0, 1) := by decide +kernel
theorem D171_58 : decode (mB 171) 58 = .ok (.iadd, 1) := by decide +kernel
theorem D171_59 : decode (mB 171) 59 = .ok (.istore_n 3, 1) := by decide +kernel
theorem D171_60 : decode (mB 171) 60 = .ok (.iinc 4 1, 3) := by decide +kernel
theorem D171_63 : BR 171 63 (.goto (-58)) (-58) 5 := ⟨by decide +kernel, by decide, by decide⟩
theorem D171_52 : decode (mB 171) 52 = .ok (.iload 5, 2) := by decide +kernel
theorem D171_54 : BR 171 54 (.goto 4) (4) 58 := ⟨by decide +kernel, by decide, by decide⟩
theorem Co_degrees_e (d : Nat) (a0 : Nat) (a1 : Nat) (x2 : Int32) (m : eM) (h_a0 : kd a0 = 1) (h_a1 : kd a1 = 4) : Co_degrees (d + 1) a0 a1 x2 m = Co_degrees_5 (d + 1) a0 a1 x2 (0 : Int32) (1 : Int32) eU m := by
  unfold Co_degrees
  refine (x_iconst D171_0 (k := 0) (by decide)).trans ?_
  refine (x_istore1 D171_1 (ls' := [.ref a0, .ref a1, .int x2, .int (0 : Int32), eU, eU]) rfl rfl).trans ?_
  refine (x_iconst D171_2 (k := 1) (by decide)).trans ?_
  refine (x_istore2 D171_3 (ls' := [.ref a0, .ref a1, .int x2, .int (0 : Int32), .int (1 : Int32), eU]) rfl rfl).trans ?_
  rfl
theorem Co_degrees_5_e (d : Nat) (a0 : Nat) (a1 : Nat) (x2 : Int32) (x3 : Int32) (x4 : Int32) (w5 : Value) (m : eM) (h_a0 : kd a0 = 1) (h_a1 : kd a1 = 4) : Co_degrees_5 (d + 1) a0 a1 x2 x3 x4 w5 m = if (gI m a0 2) ≤ x4 then (yI x3 m) else (bI (Co_whom d a0 (x4 - (1 : Int32)) m) fun v2 m1 => bI (Pa_bearing d a1 v2 m1) fun v4 m3 => bI (Co_whom d a0 x4 m3) fun v6 m5 => bI (Pa_bearing d a1 v6 m5) fun v8 m7 => bI (LC_shorterWay d v4 v8 m7) fun v10 m9 => bI (Co_start d a0 x4 m9) fun v12 m11 => if x2 < v12 then (Co_degrees_5 (d + 1) a0 a1 x2 (x3 + (0 : Int32)) (x4 + (1 : Int32)) (.int v10) m11) else (Co_degrees_5 (d + 1) a0 a1 x2 (x3 + v10) (x4 + (1 : Int32)) (.int v10) m11)) := by
  unfold Co_degrees_5
  refine (x_iload2 D171_5 rfl).trans ?_
  refine (x_aload1 D171_7 rfl).trans ?_
  refine ((x_getI D171_8).trans (gd_t h_a0)).trans ?_
  refine (x_cge D171_11).trans (i_c ?_ ?_)
  · refine (x_iload1 D171_66 rfl).trans ?_
    exact x_iret D171_67 M171.2.2.1
  · refine (x_aload1 D171_14 rfl).trans ?_
    refine (x_aload1 D171_15 rfl).trans ?_
    refine (x_iload2 D171_16 rfl).trans ?_
    refine (x_iconst D171_18 (k := 1) (by decide)).trans ?_
    refine (x_isub D171_19).trans ?_
    refine (x_cI D171_20 M164 (fun z => by cases z) (I164 _ _) rfl rfl (ok_i M164 (I164 _ _) rfl rfl h_a0)).trans (bI_c fun v2 m1 => ?_)
    refine (x_cI D171_23 M109 (fun z => by cases z) (I109 _ _) rfl rfl (ok_i M109 (I109 _ _) rfl rfl h_a1)).trans (bI_c fun v4 m3 => ?_)
    refine (x_aload1 D171_26 rfl).trans ?_
    refine (x_aload1 D171_27 rfl).trans ?_
    refine (x_iload2 D171_28 rfl).trans ?_
    refine (x_cI D171_30 M164 (fun z => by cases z) (I164 _ _) rfl rfl (ok_i M164 (I164 _ _) rfl rfl h_a0)).trans (bI_c fun v6 m5 => ?_)
    refine (x_cI D171_33 M109 (fun z => by cases z) (I109 _ _) rfl rfl (ok_i M109 (I109 _ _) rfl rfl h_a1)).trans (bI_c fun v8 m7 => ?_)
    refine (x_cI D171_36 M172 (fun z => by cases z) (I172 _ _) rfl rfl (ok_s M172 (I172 _ _) rfl rfl)).trans (bI_c fun v10 m9 => ?_)
    refine (x_istore2 D171_39 (ls' := [.ref a0, .ref a1, .int x2, .int x3, .int x4, .int v10]) rfl rfl).trans ?_
    refine (x_iload1 D171_41 rfl).trans ?_
    refine (x_aload1 D171_42 rfl).trans ?_
    refine (x_iload2 D171_43 rfl).trans ?_
    refine (x_cI D171_45 M166 (fun z => by cases z) (I166 _ _) rfl rfl (ok_i M166 (I166 _ _) rfl rfl h_a0)).trans (bI_c fun v12 m11 => ?_)
    refine (x_iload1 D171_48 rfl).trans ?_
    refine (x_cgt D171_49).trans (i_c ?_ ?_)
    · refine (x_iconst D171_57 (k := 0) (by decide)).trans ?_
      refine (x_iadd D171_58).trans ?_
      refine (x_istore1 D171_59 (ls' := [.ref a0, .ref a1, .int x2, .int (x3 + (0 : Int32)), .int x4, .int v10]) rfl rfl).trans ?_
      refine (x_iinc D171_60 rfl (k := 1) (by decide) (ls' := [.ref a0, .ref a1, .int x2, .int (x3 + (0 : Int32)), .int (x4 + (1 : Int32)), .int v10]) rfl).trans ?_
      refine (x_goto D171_63).trans ?_
      rfl
    · refine (x_iload2 D171_52 rfl).trans ?_
      refine (x_goto D171_54).trans ?_
      refine (x_iadd D171_58).trans ?_
      refine (x_istore1 D171_59 (ls' := [.ref a0, .ref a1, .int x2, .int (x3 + v10), .int x4, .int v10]) rfl rfl).trans ?_
      refine (x_iinc D171_60 rfl (k := 1) (by decide) (ls' := [.ref a0, .ref a1, .int x2, .int (x3 + v10), .int (x4 + (1 : Int32)), .int v10]) rfl).trans ?_
      refine (x_goto D171_63).trans ?_
      rfl
theorem D174_0 : decode (mB 174) 0 = .ok (.iconst (-1), 1) := by decide +kernel
theorem D174_1 : decode (mB 174) 1 = .ok (.istore_n 3, 1) := by decide +kernel
theorem D174_2 : decode (mB 174) 2 = .ok (.iconst 0, 1) := by decide +kernel
theorem D174_3 : decode (mB 174) 3 = .ok (.istore 4, 2) := by decide +kernel
theorem D174_5 : decode (mB 174) 5 = .ok (.iconst 0, 1) := by decide +kernel
theorem D174_6 : decode (mB 174) 6 = .ok (.istore 5, 2) := by decide +kernel
theorem D174_8 : decode (mB 174) 8 = .ok (.iload 5, 2) := by decide +kernel
theorem D174_10 : decode (mB 174) 10 = .ok (.aload_n 0, 1) := by decide +kernel
theorem D174_11 : GF 174 11 1 2 0 := ⟨18, false, by decide +kernel, by decide +kernel⟩
theorem D174_14 : BR 174 14 (.if_icmp .ge 47) (47) 61 := ⟨by decide +kernel, by decide, by decide⟩
theorem D174_61 : decode (mB 174) 61 = .ok (.iload_n 3, 1) := by decide +kernel
theorem D174_62 : decode (mB 174) 62 = .ok (.ireturn, 1) := by decide +kernel
theorem D174_17 : decode (mB 174) 17 = .ok (.aload_n 0, 1) := by decide +kernel
theorem D174_18 : decode (mB 174) 18 = .ok (.iload 5, 2) := by decide +kernel
theorem D174_20 : CS 174 20 164 0 := ⟨.invokevirtual 57, by decide +kernel, by decide +kernel, by decide +kernel, by decide⟩
theorem D174_23 : decode (mB 174) 23 = .ok (.iconst (-1), 1) := by decide +kernel
theorem D174_24 : BR 174 24 (.if_icmp .ne 7) (7) 31 := ⟨by decide +kernel, by decide, by decide⟩
theorem D174_31 : decode (mB 174) 31 = .ok (.aload_n 0, 1) := by decide +kernel
theorem D174_32 : decode (mB 174) 32 = .ok (.iload 5, 2) := by decide +kernel
theorem D174_34 : decode (mB 174) 34 = .ok (.iload_n 1, 1) := by decide +kernel
theorem D174_35 : decode (mB 174) 35 = .ok (.iload_n 2, 1) := by decide +kernel
theorem D174_36 : CS 174 36 169 0 := ⟨.invokevirtual 77, by decide +kernel, by decide +kernel, by decide +kernel, by decide⟩
theorem D174_39 : decode (mB 174) 39 = .ok (.istore 6, 2) := by decide +kernel
theorem D174_41 : decode (mB 174) 41 = .ok (.iload 6, 2) := by decide +kernel
theorem D174_43 : decode (mB 174) 43 = .ok (.iload 4, 2) := by decide +kernel
theorem D174_45 : BR 174 45 (.if_icmp .le 10) (10) 55 := ⟨by decide +kernel, by decide, by decide⟩
theorem D174_55 : decode (mB 174) 55 = .ok (.iinc 5 1, 3) := by decide +kernel
theorem D174_58 : BR 174 58 (.goto (-50)) (-50) 8 := ⟨by decide +kernel, by decide, by decide⟩
theorem D174_48 : decode (mB 174) 48 = .ok (.iload 6, 2) := by decide +kernel
theorem D174_50 : decode (mB 174) 50 = .ok (.istore 4, 2) := by decide +kernel
theorem D174_52 : decode (mB 174) 52 = .ok (.iload 5, 2) := by decide +kernel
theorem D174_54 : decode (mB 174) 54 = .ok (.istore_n 3, 1) := by decide +kernel
theorem D174_27 : decode (mB 174) 27 = .ok (.iconst 0, 1) := by decide +kernel
theorem D174_28 : BR 174 28 (.goto 11) (11) 39 := ⟨by decide +kernel, by decide, by decide⟩
theorem Co_longestPart_e (d : Nat) (a0 : Nat) (x1 : Int32) (x2 : Int32) (m : eM) (h_a0 : kd a0 = 1) : Co_longestPart (d + 1) a0 x1 x2 m = Co_longestPart_8 (d + 1) a0 x1 x2 (-1 : Int32) (0 : Int32) (0 : Int32) eU m := by
  unfold Co_longestPart
  refine (x_iconst D174_0 (k := -1) (by decide)).trans ?_
  refine (x_istore1 D174_1 (ls' := [.ref a0, .int x1, .int x2, .int (-1 : Int32), eU, eU, eU]) rfl rfl).trans ?_
  refine (x_iconst D174_2 (k := 0) (by decide)).trans ?_
  refine (x_istore2 D174_3 (ls' := [.ref a0, .int x1, .int x2, .int (-1 : Int32), .int (0 : Int32), eU, eU]) rfl rfl).trans ?_
  refine (x_iconst D174_5 (k := 0) (by decide)).trans ?_
  refine (x_istore2 D174_6 (ls' := [.ref a0, .int x1, .int x2, .int (-1 : Int32), .int (0 : Int32), .int (0 : Int32), eU]) rfl rfl).trans ?_
  rfl
theorem Co_longestPart_8_e (d : Nat) (a0 : Nat) (x1 : Int32) (x2 : Int32) (x3 : Int32) (x4 : Int32) (x5 : Int32) (w6 : Value) (m : eM) (h_a0 : kd a0 = 1) : Co_longestPart_8 (d + 1) a0 x1 x2 x3 x4 x5 w6 m = if (gI m a0 2) ≤ x5 then (yI x3 m) else (bI (Co_whom d a0 x5 m) fun v2 m1 => if ¬ v2 = (-1 : Int32) then (bI (Co_minutesOf d a0 x5 x1 x2 m1) fun v4 m3 => if v4 ≤ x4 then (Co_longestPart_8 (d + 1) a0 x1 x2 x3 x4 (x5 + (1 : Int32)) (.int v4) m3) else (Co_longestPart_8 (d + 1) a0 x1 x2 x5 v4 (x5 + (1 : Int32)) (.int v4) m3)) else (if (0 : Int32) ≤ x4 then (Co_longestPart_8 (d + 1) a0 x1 x2 x3 x4 (x5 + (1 : Int32)) (.int (0 : Int32)) m1) else (Co_longestPart_8 (d + 1) a0 x1 x2 x5 (0 : Int32) (x5 + (1 : Int32)) (.int (0 : Int32)) m1))) := by
  unfold Co_longestPart_8
  refine (x_iload2 D174_8 rfl).trans ?_
  refine (x_aload1 D174_10 rfl).trans ?_
  refine ((x_getI D174_11).trans (gd_t h_a0)).trans ?_
  refine (x_cge D174_14).trans (i_c ?_ ?_)
  · refine (x_iload1 D174_61 rfl).trans ?_
    exact x_iret D174_62 M174.2.2.1
  · refine (x_aload1 D174_17 rfl).trans ?_
    refine (x_iload2 D174_18 rfl).trans ?_
    refine (x_cI D174_20 M164 (fun z => by cases z) (I164 _ _) rfl rfl (ok_i M164 (I164 _ _) rfl rfl h_a0)).trans (bI_c fun v2 m1 => ?_)
    refine (x_iconst D174_23 (k := -1) (by decide)).trans ?_
    refine (x_cne D174_24).trans (i_c ?_ ?_)
    · refine (x_aload1 D174_31 rfl).trans ?_
      refine (x_iload2 D174_32 rfl).trans ?_
      refine (x_iload1 D174_34 rfl).trans ?_
      refine (x_iload1 D174_35 rfl).trans ?_
      refine (x_cI D174_36 M169 (fun z => by cases z) (I169 _ _ _ _) rfl rfl (ok_i M169 (I169 _ _ _ _) rfl rfl h_a0)).trans (bI_c fun v4 m3 => ?_)
      refine (x_istore2 D174_39 (ls' := [.ref a0, .int x1, .int x2, .int x3, .int x4, .int x5, .int v4]) rfl rfl).trans ?_
      refine (x_iload2 D174_41 rfl).trans ?_
      refine (x_iload2 D174_43 rfl).trans ?_
      refine (x_cle D174_45).trans (i_c ?_ ?_)
      · refine (x_iinc D174_55 rfl (k := 1) (by decide) (ls' := [.ref a0, .int x1, .int x2, .int x3, .int x4, .int (x5 + (1 : Int32)), .int v4]) rfl).trans ?_
        refine (x_goto D174_58).trans ?_
        rfl
      · refine (x_iload2 D174_48 rfl).trans ?_
        refine (x_istore2 D174_50 (ls' := [.ref a0, .int x1, .int x2, .int x3, .int v4, .int x5, .int v4]) rfl rfl).trans ?_
        refine (x_iload2 D174_52 rfl).trans ?_
        refine (x_istore1 D174_54 (ls' := [.ref a0, .int x1, .int x2, .int x5, .int v4, .int x5, .int v4]) rfl rfl).trans ?_
        refine (x_iinc D174_55 rfl (k := 1) (by decide) (ls' := [.ref a0, .int x1, .int x2, .int x5, .int v4, .int (x5 + (1 : Int32)), .int v4]) rfl).trans ?_
        refine (x_goto D174_58).trans ?_
        rfl
    · refine (x_iconst D174_27 (k := 0) (by decide)).trans ?_
      refine (x_goto D174_28).trans ?_
      refine (x_istore2 D174_39 (ls' := [.ref a0, .int x1, .int x2, .int x3, .int x4, .int x5, .int (0 : Int32)]) rfl rfl).trans ?_
      refine (x_iload2 D174_41 rfl).trans ?_
      refine (x_iload2 D174_43 rfl).trans ?_
      refine (x_cle D174_45).trans (i_c ?_ ?_)
      · refine (x_iinc D174_55 rfl (k := 1) (by decide) (ls' := [.ref a0, .int x1, .int x2, .int x3, .int x4, .int (x5 + (1 : Int32)), .int (0 : Int32)]) rfl).trans ?_
        refine (x_goto D174_58).trans ?_
        rfl
      · refine (x_iload2 D174_48 rfl).trans ?_
        refine (x_istore2 D174_50 (ls' := [.ref a0, .int x1, .int x2, .int x3, .int (0 : Int32), .int x5, .int (0 : Int32)]) rfl rfl).trans ?_
        refine (x_iload2 D174_52 rfl).trans ?_
        refine (x_istore1 D174_54 (ls' := [.ref a0, .int x1, .int x2, .int x5, .int (0 : Int32), .int x5, .int (0 : Int32)]) rfl rfl).trans ?_
        refine (x_iinc D174_55 rfl (k := 1) (by decide) (ls' := [.ref a0, .int x1, .int x2, .int x5, .int (0 : Int32), .int (x5 + (1 : Int32)), .int (0 : Int32)]) rfl).trans ?_
        refine (x_goto D174_58).trans ?_
        rfl
theorem D176_0 : decode (mB 176) 0 = .ok (.iconst 0, 1) := by decide +kernel
theorem D176_1 : decode (mB 176) 1 = .ok (.istore 4, 2) := by decide +kernel
theorem D176_3 : decode (mB 176) 3 = .ok (.iconst 0, 1) := by decide +kernel
theorem D176_4 : decode (mB 176) 4 = .ok (.istore 5, 2) := by decide +kernel
theorem D176_6 : decode (mB 176) 6 = .ok (.iload 5, 2) := by decide +kernel
theorem D176_8 : decode (mB 176) 8 = .ok (.aload_n 1, 1) := by decide +kernel
theorem D176_9 : GF 176 9 1 2 0 := ⟨18, false, by decide +kernel, by decide +kernel⟩
theorem D176_12 : BR 176 12 (.if_icmp .ge 72) (72) 84 := ⟨by decide +kernel, by decide, by decide⟩
theorem D176_84 : decode (mB 176) 84 = .ok (.iload 4, 2) := by decide +kernel
theorem D176_86 : decode (mB 176) 86 = .ok (.ireturn, 1) := by decide +kernel
theorem D176_15 : decode (mB 176) 15 = .ok (.iload_n 2, 1) := by decide +kernel
theorem D176_16 : decode (mB 176) 16 = .ok (.aload_n 1, 1) := by decide +kernel
theorem D176_17 : decode (mB 176) 17 = .ok (.iload 5, 2) := by decide +kernel
theorem D176_19 : CS 176 19 166 0 := ⟨.invokevirtual 59, by decide +kernel, by decide +kernel, by decide +kernel, by decide⟩
theorem D176_22 : MA 176 22 0 := ⟨68, by decide +kernel, by decide +kernel, by decide +kernel⟩
theorem D176_25 : decode (mB 176) 25 = .ok (.istore 6, 2) := by decide +kernel
theorem D176_27 : decode (mB 176) 27 = .ok (.iload_n 3, 1) := by decide +kernel
theorem D176_28 : decode (mB 176) 28 = .ok (.aload_n 1, 1) := by decide +kernel
theorem D176_29 : decode (mB 176) 29 = .ok (.iload 5, 2) := by decide +kernel
theorem D176_31 : decode (mB 176) 31 = .ok (.iconst 1, 1) := by decide +kernel
theorem D176_32 : decode (mB 176) 32 = .ok (.iadd, 1) := by decide +kernel
theorem D176_33 : CS 176 33 166 0 := ⟨.invokevirtual 59, by decide +kernel, by decide +kernel, by decide +kernel, by decide⟩
theorem D176_36 : decode (mB 176) 36 = .ok (.iconst 1, 1) := by decide +kernel
theorem D176_37 : decode (mB 176) 37 = .ok (.isub, 1) := by decide +kernel
theorem D176_38 : MA 176 38 1 := ⟨62, by decide +kernel, by decide +kernel, by decide +kernel⟩
theorem D176_41 : decode (mB 176) 41 = .ok (.istore 7, 2) := by decide +kernel
theorem D176_43 : decode (mB 176) 43 = .ok (.aload_n 0, 1) := by decide +kernel
theorem D176_44 : decode (mB 176) 44 = .ok (.aload_n 1, 1) := by decide +kernel
theorem D176_45 : decode (mB 176) 45 = .ok (.iload 5, 2) := by decide +kernel
theorem D176_47 : CS 176 47 164 0 := ⟨.invokevirtual 57, by decide +kernel, by decide +kernel, by decide +kernel, by decide⟩
theorem D176_50 : decode (mB 176) 50 = .ok (.iload 6, 2) := by decide +kernel
theorem D176_52 : decode (mB 176) 52 = .ok (.iload 7, 2) := by decide +kernel
theorem D176_54 : CS 176 54 168 0 := ⟨.invokevirtual 81, by decide +kernel, by decide +kernel, by decide +kernel, by decide⟩
theorem D176_57 : decode (mB 176) 57 = .ok (.istore 8, 2) := by decide +kernel
theorem D176_59 : decode (mB 176) 59 = .ok (.iload 4, 2) := by decide +kernel
theorem D176_61 : decode (mB 176) 61 = .ok (.iconst 0, 1) := by decide +kernel
theorem D176_62 : decode (mB 176) 62 = .ok (.iload 7, 2) := by decide +kernel
theorem D176_64 : decode (mB 176) 64 = .ok (.iload 6, 2) := by decide +kernel
theorem D176_66 : decode (mB 176) 66 = .ok (.isub, 1) := by decide +kernel
theorem D176_67 : decode (mB 176) 67 = .ok (.iconst 1, 1) := by decide +kernel
theorem D176_68 : decode (mB 176) 68 = .ok (.iadd, 1) := by decide +kernel
theorem D176_69 : MA 176 69 0 := ⟨68, by decide +kernel, by decide +kernel, by decide +kernel⟩
theorem D176_72 : decode (mB 176) 72 = .ok (.iload 8, 2) := by decide +kernel
theorem D176_74 : decode (mB 176) 74 = .ok (.isub, 1) := by decide +kernel
theorem D176_75 : decode (mB 176) 75 = .ok (.iadd, 1) := by decide +kernel
theorem D176_76 : decode (mB 176) 76 = .ok (.istore 4, 2) := by decide +kernel
theorem D176_78 : decode (mB 176) 78 = .ok (.iinc 5 1, 3) := by decide +kernel
theorem D176_81 : BR 176 81 (.goto (-75)) (-75) 6 := ⟨by decide +kernel, by decide, by decide⟩
theorem Co_minutesUnlike_e (d : Nat) (a0 : Nat) (a1 : Nat) (x2 : Int32) (x3 : Int32) (m : eM) (h_a0 : kd a0 = 1) (h_a1 : kd a1 = 1) : Co_minutesUnlike (d + 1) a0 a1 x2 x3 m = Co_minutesUnlike_6 (d + 1) a0 a1 x2 x3 (0 : Int32) (0 : Int32) eU eU eU m := by
  unfold Co_minutesUnlike
  refine (x_iconst D176_0 (k := 0) (by decide)).trans ?_
  refine (x_istore2 D176_1 (ls' := [.ref a0, .ref a1, .int x2, .int x3, .int (0 : Int32), eU, eU, eU, eU]) rfl rfl).trans ?_
  refine (x_iconst D176_3 (k := 0) (by decide)).trans ?_
  refine (x_istore2 D176_4 (ls' := [.ref a0, .ref a1, .int x2, .int x3, .int (0 : Int32), .int (0 : Int32), eU, eU, eU]) rfl rfl).trans ?_
  rfl
theorem Co_minutesUnlike_6_e (d : Nat) (a0 : Nat) (a1 : Nat) (x2 : Int32) (x3 : Int32) (x4 : Int32) (x5 : Int32) (w6 : Value) (w7 : Value) (w8 : Value) (m : eM) (h_a0 : kd a0 = 1) (h_a1 : kd a1 = 1) : Co_minutesUnlike_6 (d + 1) a0 a1 x2 x3 x4 x5 w6 w7 w8 m = if (gI m a1 2) ≤ x5 then (yI x4 m) else (bI (Co_start d a1 x5 m) fun v2 m1 => bI (Co_start d a1 (x5 + (1 : Int32)) m1) fun v4 m3 => bI (Co_whom d a1 x5 m3) fun v6 m5 => bI (Co_minutesAt d a0 v6 (iMax x2 v2) (iMin x3 (v4 - (1 : Int32))) m5) fun v8 m7 => lI (x4 + ((iMax (0 : Int32) (((iMin x3 (v4 - (1 : Int32))) - (iMax x2 v2)) + (1 : Int32))) - v8)) fun v9 => Co_minutesUnlike_6 (d + 1) a0 a1 x2 x3 v9 (x5 + (1 : Int32)) (.int (iMax x2 v2)) (.int (iMin x3 (v4 - (1 : Int32)))) (.int v8) m7) := by
  unfold Co_minutesUnlike_6
  refine (x_iload2 D176_6 rfl).trans ?_
  refine (x_aload1 D176_8 rfl).trans ?_
  refine ((x_getI D176_9).trans (gd_t h_a1)).trans ?_
  refine (x_cge D176_12).trans (i_c ?_ ?_)
  · refine (x_iload2 D176_84 rfl).trans ?_
    exact x_iret D176_86 M176.2.2.1
  · refine (x_iload1 D176_15 rfl).trans ?_
    refine (x_aload1 D176_16 rfl).trans ?_
    refine (x_iload2 D176_17 rfl).trans ?_
    refine (x_cI D176_19 M166 (fun z => by cases z) (I166 _ _) rfl rfl (ok_i M166 (I166 _ _) rfl rfl h_a1)).trans (bI_c fun v2 m1 => ?_)
    refine (x_max D176_22 rfl).trans ?_
    refine (x_istore2 D176_25 (ls' := [.ref a0, .ref a1, .int x2, .int x3, .int x4, .int x5, .int (iMax x2 v2), w7, w8]) rfl rfl).trans ?_
    refine (x_iload1 D176_27 rfl).trans ?_
    refine (x_aload1 D176_28 rfl).trans ?_
    refine (x_iload2 D176_29 rfl).trans ?_
    refine (x_iconst D176_31 (k := 1) (by decide)).trans ?_
    refine (x_iadd D176_32).trans ?_
    refine (x_cI D176_33 M166 (fun z => by cases z) (I166 _ _) rfl rfl (ok_i M166 (I166 _ _) rfl rfl h_a1)).trans (bI_c fun v4 m3 => ?_)
    refine (x_iconst D176_36 (k := 1) (by decide)).trans ?_
    refine (x_isub D176_37).trans ?_
    refine (x_min D176_38 rfl).trans ?_
    refine (x_istore2 D176_41 (ls' := [.ref a0, .ref a1, .int x2, .int x3, .int x4, .int x5, .int (iMax x2 v2), .int (iMin x3 (v4 - (1 : Int32))), w8]) rfl rfl).trans ?_
    refine (x_aload1 D176_43 rfl).trans ?_
    refine (x_aload1 D176_44 rfl).trans ?_
    refine (x_iload2 D176_45 rfl).trans ?_
    refine (x_cI D176_47 M164 (fun z => by cases z) (I164 _ _) rfl rfl (ok_i M164 (I164 _ _) rfl rfl h_a1)).trans (bI_c fun v6 m5 => ?_)
    refine (x_iload2 D176_50 rfl).trans ?_
    refine (x_iload2 D176_52 rfl).trans ?_
    refine (x_cI D176_54 M168 (fun z => by cases z) (I168 _ _ _ _) rfl rfl (ok_i M168 (I168 _ _ _ _) rfl rfl h_a0)).trans (bI_c fun v8 m7 => ?_)
    refine (x_istore2 D176_57 (ls' := [.ref a0, .ref a1, .int x2, .int x3, .int x4, .int x5, .int (iMax x2 v2), .int (iMin x3 (v4 - (1 : Int32))), .int v8]) rfl rfl).trans ?_
    refine (x_iload2 D176_59 rfl).trans ?_
    refine (x_iconst D176_61 (k := 0) (by decide)).trans ?_
    refine (x_iload2 D176_62 rfl).trans ?_
    refine (x_iload2 D176_64 rfl).trans ?_
    refine (x_isub D176_66).trans ?_
    refine (x_iconst D176_67 (k := 1) (by decide)).trans ?_
    refine (x_iadd D176_68).trans ?_
    refine (x_max D176_69 rfl).trans ?_
    refine (x_iload2 D176_72 rfl).trans ?_
    refine (x_isub D176_74).trans ?_
    refine (x_iadd D176_75).trans ?_
    refine (x_istore2 D176_76 (ls' := [.ref a0, .ref a1, .int x2, .int x3, .int (x4 + ((iMax (0 : Int32) (((iMin x3 (v4 - (1 : Int32))) - (iMax x2 v2)) + (1 : Int32))) - v8)), .int x5, .int (iMax x2 v2), .int (iMin x3 (v4 - (1 : Int32))), .int v8]) rfl rfl).trans ?_
    refine lI_i (fun v9 => X (d + 1) 176 78 [.ref a0, .ref a1, .int x2, .int x3, .int v9, .int x5, .int (iMax x2 v2), .int (iMin x3 (v4 - (1 : Int32))), .int v8] [] m7) _ ?_ _
    intro v9
    refine (x_iinc D176_78 rfl (k := 1) (by decide) (ls' := [.ref a0, .ref a1, .int x2, .int x3, .int v9, .int (x5 + (1 : Int32)), .int (iMax x2 v2), .int (iMin x3 (v4 - (1 : Int32))), .int v8]) rfl).trans ?_
    refine (x_goto D176_81).trans ?_
    rfl
theorem D184_0 : decode (mB 184) 0 = .ok (.aload_n 0, 1) := by decide +kernel
theorem D184_1 : decode (mB 184) 1 = .ok (.aload_n 0, 1) := by decide +kernel
theorem D184_2 : GF 184 2 7 5 0 := ⟨28, false, by decide +kernel, by decide +kernel⟩
theorem D184_5 : decode (mB 184) 5 = .ok (.iconst 1, 1) := by decide +kernel
theorem D184_6 : decode (mB 184) 6 = .ok (.iadd, 1) := by decide +kernel
theorem D184_7 : decode (mB 184) 7 = .ok (.bipush 31, 2) := by decide +kernel
theorem D184_9 : MA 184 9 1 := ⟨40, by decide +kernel, by decide +kernel, by decide +kernel⟩
theorem D184_12 : PF 184 12 7 5 0 := ⟨28, false, by decide +kernel, by decide +kernel, by decide +kernel, by decide⟩
theorem D184_15 : decode (mB 184) 15 = .ok (.aload_n 0, 1) := by decide +kernel
theorem D184_16 : GF 184 16 7 5 0 := ⟨28, false, by decide +kernel, by decide +kernel⟩
theorem D184_19 : decode (mB 184) 19 = .ok (.iconst 1, 1) := by decide +kernel
theorem D184_20 : decode (mB 184) 20 = .ok (.isub, 1) := by decide +kernel
theorem D184_21 : decode (mB 184) 21 = .ok (.istore_n 3, 1) := by decide +kernel
theorem D184_22 : decode (mB 184) 22 = .ok (.iload_n 3, 1) := by decide +kernel
theorem D184_23 : BR 184 23 (.ifCond .le 33) (33) 56 := ⟨by decide +kernel, by decide, by decide⟩
theorem D184_56 : decode (mB 184) 56 = .ok (.aload_n 0, 1) := by decide +kernel
theorem D184_57 : decode (mB 184) 57 = .ok (.iload_n 3, 1) := by decide +kernel
theorem D184_58 : decode (mB 184) 58 = .ok (.aload_n 1, 1) := by decide +kernel
theorem D184_59 : decode (mB 184) 59 = .ok (.iload_n 2, 1) := by decide +kernel
theorem D184_60 : CS 184 60 148 0 := ⟨.invokevirtual 60, by decide +kernel, by decide +kernel, by decide +kernel, by decide⟩
theorem D184_63 : decode (mB 184) 63 = .ok (.return_, 1) := by decide +kernel
theorem D184_26 : decode (mB 184) 26 = .ok (.aload_n 0, 1) := by decide +kernel
theorem D184_27 : decode (mB 184) 27 = .ok (.iload_n 3, 1) := by decide +kernel
theorem D184_28 : decode (mB 184) 28 = .ok (.iconst 1, 1) := by decide +kernel
theorem D184_29 : decode (mB 184) 29 = .ok (.isub, 1) := by decide +kernel
theorem D184_30 : CS 184 30 72 0 := ⟨.invokevirtual 36, by decide +kernel, by decide +kernel, by decide +kernel, by decide⟩
theorem D184_33 : decode (mB 184) 33 = .ok (.aload_n 1, 1) := by decide +kernel
theorem D184_34 : decode (mB 184) 34 = .ok (.iload_n 2, 1) := by decide +kernel
theorem D184_35 : CS 184 35 72 0 := ⟨.invokevirtual 36, by decide +kernel, by decide +kernel, by decide +kernel, by decide⟩
theorem D184_38 : BR 184 38 (.if_icmp .le 18) (18) 56 := ⟨by decide +kernel, by decide, by decide⟩
theorem D184_41 : decode (mB 184) 41 = .ok (.aload_n 0, 1) := by decide +kernel
theorem D184_42 : decode (mB 184) 42 = .ok (.iload_n 3, 1) := by decide +kernel
theorem D184_43 : decode (mB 184) 43 = .ok (.aload_n 0, 1) := by decide +kernel
theorem D184_44 : decode (mB 184) 44 = .ok (.iload_n 3, 1) := by decide +kernel
theorem D184_45 : decode (mB 184) 45 = .ok (.iconst 1, 1) := by decide +kernel
theorem D184_46 : decode (mB 184) 46 = .ok (.isub, 1) := by decide +kernel
theorem D184_47 : CS 184 47 148 0 := ⟨.invokevirtual 60, by decide +kernel, by decide +kernel, by decide +kernel, by decide⟩
theorem D184_50 : decode (mB 184) 50 = .ok (.iinc 3 (-1), 3) := by decide +kernel
theorem D184_53 : BR 184 53 (.goto (-31)) (-31) 22 := ⟨by decide +kernel, by decide, by decide⟩
theorem Tk_insert_e (d : Nat) (a0 : Nat) (a1 : Nat) (x2 : Int32) (m : eM) (h_a0 : kd a0 = 7) (h_a1 : kd a1 = 7) : Tk_insert (d + 1) a0 a1 x2 m = mI m a0 5 (iMin ((gI m a0 5) + (1 : Int32)) (31 : Int32)) fun m1 => Tk_insert_22 (d + 1) a0 a1 x2 ((gI m1 a0 5) - (1 : Int32)) m1 := by
  unfold Tk_insert
  refine (x_aload1 D184_0 rfl).trans ?_
  refine (x_aload1 D184_1 rfl).trans ?_
  refine ((x_getI D184_2).trans (gd_t h_a0)).trans ?_
  refine (x_iconst D184_5 (k := 1) (by decide)).trans ?_
  refine (x_iadd D184_6).trans ?_
  refine (x_bipush D184_7 (k := 31) (by decide)).trans ?_
  refine (x_min D184_9 rfl).trans ?_
  refine (x_putI D184_12 h_a0).trans ?_
  refine mI_i (fun m1 => X (d + 1) 184 15 [.ref a0, .ref a1, .int x2, eU] [] m1) _ ?_
  intro m1
  refine (x_aload1 D184_15 rfl).trans ?_
  refine ((x_getI D184_16).trans (gd_t h_a0)).trans ?_
  refine (x_iconst D184_19 (k := 1) (by decide)).trans ?_
  refine (x_isub D184_20).trans ?_
  refine (x_istore1 D184_21 (ls' := [.ref a0, .ref a1, .int x2, .int ((gI m1 a0 5) - (1 : Int32))]) rfl rfl).trans ?_
  rfl
theorem Tk_insert_22_e (d : Nat) (a0 : Nat) (a1 : Nat) (x2 : Int32) (x3 : Int32) (m : eM) (h_a0 : kd a0 = 7) (h_a1 : kd a1 = 7) : Tk_insert_22 (d + 1) a0 a1 x2 x3 m = if x3 ≤ 0 then (bV (Tk_setFrom d a0 x3 a1 x2 m) fun m1 => yV m1) else (bI (Tk_minute d a0 (x3 - (1 : Int32)) m) fun v3 m2 => bI (Tk_minute d a1 x2 m2) fun v5 m4 => if v3 ≤ v5 then (bV (Tk_setFrom d a0 x3 a1 x2 m4) fun m6 => yV m6) else (bV (Tk_setFrom d a0 x3 a0 (x3 - (1 : Int32)) m4) fun m7 => Tk_insert_22 (d + 1) a0 a1 x2 (x3 + (-1 : Int32)) m7)) := by
  unfold Tk_insert_22
  refine (x_iload1 D184_22 rfl).trans ?_
  refine (x_ifle D184_23).trans (i_c ?_ ?_)
  · refine (x_aload1 D184_56 rfl).trans ?_
    refine (x_iload1 D184_57 rfl).trans ?_
    refine (x_aload1 D184_58 rfl).trans ?_
    refine (x_iload1 D184_59 rfl).trans ?_
    refine (x_cV D184_60 M148  (I148 _ _ _ _) rfl rfl (ok_i M148 (I148 _ _ _ _) rfl rfl h_a0)).trans (bV_c fun m1 => ?_)
    exact x_vret D184_63 M184.2.2.1
  · refine (x_aload1 D184_26 rfl).trans ?_
    refine (x_iload1 D184_27 rfl).trans ?_
    refine (x_iconst D184_28 (k := 1) (by decide)).trans ?_
    refine (x_isub D184_29).trans ?_
    refine (x_cI D184_30 M72 (fun z => by cases z) (I72 _ _) rfl rfl (ok_i M72 (I72 _ _) rfl rfl h_a0)).trans (bI_c fun v3 m2 => ?_)
    refine (x_aload1 D184_33 rfl).trans ?_
    refine (x_iload1 D184_34 rfl).trans ?_
    refine (x_cI D184_35 M72 (fun z => by cases z) (I72 _ _) rfl rfl (ok_i M72 (I72 _ _) rfl rfl h_a1)).trans (bI_c fun v5 m4 => ?_)
    refine (x_cle D184_38).trans (i_c ?_ ?_)
    · refine (x_aload1 D184_56 rfl).trans ?_
      refine (x_iload1 D184_57 rfl).trans ?_
      refine (x_aload1 D184_58 rfl).trans ?_
      refine (x_iload1 D184_59 rfl).trans ?_
      refine (x_cV D184_60 M148  (I148 _ _ _ _) rfl rfl (ok_i M148 (I148 _ _ _ _) rfl rfl h_a0)).trans (bV_c fun m6 => ?_)
      exact x_vret D184_63 M184.2.2.1
    · refine (x_aload1 D184_41 rfl).trans ?_
      refine (x_iload1 D184_42 rfl).trans ?_
      refine (x_aload1 D184_43 rfl).trans ?_
      refine (x_iload1 D184_44 rfl).trans ?_
      refine (x_iconst D184_45 (k := 1) (by decide)).trans ?_
      refine (x_isub D184_46).trans ?_
      refine (x_cV D184_47 M148  (I148 _ _ _ _) rfl rfl (ok_i M148 (I148 _ _ _ _) rfl rfl h_a0)).trans (bV_c fun m7 => ?_)
      refine (x_iinc D184_50 rfl (k := -1) (by decide) (ls' := [.ref a0, .ref a1, .int x2, .int (x3 + (-1 : Int32))]) rfl).trans ?_
      refine (x_goto D184_53).trans ?_
      rfl
theorem D185_0 : decode (mB 185) 0 = .ok (.aload_n 0, 1) := by decide +kernel
theorem D185_1 : GF 185 1 0 1 2 := ⟨15, true, by decide +kernel, by decide +kernel⟩
theorem D185_4 : decode (mB 185) 4 = .ok (.astore_n 2, 1) := by decide +kernel
theorem D185_5 : decode (mB 185) 5 = .ok (.aload_n 2, 1) := by decide +kernel
theorem D185_6 : decode (mB 185) 6 = .ok (.arraylength, 1) := by decide +kernel
theorem D185_7 : decode (mB 185) 7 = .ok (.istore_n 3, 1) := by decide +kernel
theorem D185_8 : decode (mB 185) 8 = .ok (.iconst 0, 1) := by decide +kernel
theorem D185_9 : decode (mB 185) 9 = .ok (.istore 4, 2) := by decide +kernel
theorem D185_11 : decode (mB 185) 11 = .ok (.iload 4, 2) := by decide +kernel
theorem D185_13 : decode (mB 185) 13 = .ok (.iload_n 3, 1) := by decide +kernel
theorem D185_14 : BR 185 14 (.if_icmp .ge 27) (27) 41 := ⟨by decide +kernel, by decide, by decide⟩
theorem D185_41 : decode (mB 185) 41 = .ok (.lconst 0, 1) := by decide +kernel
theorem D185_42 : decode (mB 185) 42 = .ok (.lreturn, 1) := by decide +kernel
theorem D185_17 : decode (mB 185) 17 = .ok (.aload_n 2, 1) := by decide +kernel
theorem D185_18 : decode (mB 185) 18 = .ok (.iload 4, 2) := by decide +kernel
theorem D185_20 : decode (mB 185) 20 = .ok (.laload, 1) := by decide +kernel
theorem D185_21 : decode (mB 185) 21 = .ok (.lstore 5, 2) := by decide +kernel
theorem D185_23 : decode (mB 185) 23 = .ok (.lload 5, 2) := by decide +kernel
theorem D185_25 : decode (mB 185) 25 = .ok (.iload_n 1, 1) := by decide +kernel
theorem D185_26 : CS 185 26 96 2 := ⟨.invokestatic 64, by decide +kernel, by decide +kernel, by decide +kernel, by decide⟩
theorem D185_29 : BR 185 29 (.ifCond .eq 6) (6) 35 := ⟨by decide +kernel, by decide, by decide⟩
theorem D185_35 : decode (mB 185) 35 = .ok (.iinc 4 1, 3) := by decide +kernel
theorem D185_38 : BR 185 38 (.goto (-27)) (-27) 11 := ⟨by decide +kernel, by decide, by decide⟩
theorem D185_32 : decode (mB 185) 32 = .ok (.lload 5, 2) := by decide +kernel
theorem D185_34 : decode (mB 185) 34 = .ok (.lreturn, 1) := by decide +kernel
theorem Ai_groupOf_e (d : Nat) (a0 : Nat) (x1 : Int32) (m : eM) (h_a0 : kd a0 = 0) : Ai_groupOf (d + 1) a0 x1 m = bR (gR m a0 1) fun r1 => gl r1 (Ai_groupOf_11 (d + 1) a0 x1 r1 ((aln m r1).toInt32) (0 : Int32) eU m) := by
  unfold Ai_groupOf
  refine (x_aload1 D185_0 rfl).trans ?_
  refine ((x_getR D185_1).trans (gd_t h_a0)).trans (bR_c fun r1 => ?_)
  refine (x_astore1 D185_4 (ls' := [.ref a0, .int x1, .ref r1, eU, eU, eU, eU]) rfl rfl).trans ?_
  refine (x_aload1 D185_5 rfl).trans ?_
  refine (x_alen D185_6).trans (gl_c ?_)
  refine (x_istore1 D185_7 (ls' := [.ref a0, .int x1, .ref r1, .int ((aln m r1).toInt32), eU, eU, eU]) rfl rfl).trans ?_
  refine (x_iconst D185_8 (k := 0) (by decide)).trans ?_
  refine (x_istore2 D185_9 (ls' := [.ref a0, .int x1, .ref r1, .int ((aln m r1).toInt32), .int (0 : Int32), eU, eU]) rfl rfl).trans ?_
  rfl
theorem Ai_groupOf_11_e (d : Nat) (a0 : Nat) (x1 : Int32) (a2 : Nat) (x3 : Int32) (x4 : Int32) (w5 : Value) (m : eM) (h_a0 : kd a0 = 0) : Ai_groupOf_11 (d + 1) a0 x1 a2 x3 x4 w5 m = if x3 ≤ x4 then (yL (0 : Int64) m) else (ga m a2 21 x4 (bI (LC_holds d (gL m a2 x4.toNatClampNeg) x1 m) fun v2 m1 => if v2 = 0 then (Ai_groupOf_11 (d + 1) a0 x1 a2 x3 (x4 + (1 : Int32)) (.long (gL m a2 x4.toNatClampNeg)) m1) else (yL (gL m a2 x4.toNatClampNeg) m1))) := by
  unfold Ai_groupOf_11
  refine (x_iload2 D185_11 rfl).trans ?_
  refine (x_iload1 D185_13 rfl).trans ?_
  refine (x_cge D185_14).trans (i_c ?_ ?_)
  · refine (x_lconst0 D185_41).trans ?_
    exact x_lret D185_42 M185.2.2.1
  · refine (x_aload1 D185_17 rfl).trans ?_
    refine (x_iload2 D185_18 rfl).trans ?_
    refine (x_laload D185_20).trans (ga_c ?_)
    refine (x_lstore2 D185_21 (ls' := [.ref a0, .int x1, .ref a2, .int x3, .int x4, .long (gL m a2 x4.toNatClampNeg), eU]) rfl rfl).trans ?_
    refine (x_lload2 D185_23 rfl).trans ?_
    refine (x_iload1 D185_25 rfl).trans ?_
    refine (x_cI D185_26 M96 (fun z => by cases z) (I96 _ _) rfl rfl (ok_s M96 (I96 _ _) rfl rfl)).trans (bI_c fun v2 m1 => ?_)
    refine (x_ifeq D185_29).trans (i_c ?_ ?_)
    · refine (x_iinc D185_35 rfl (k := 1) (by decide) (ls' := [.ref a0, .int x1, .ref a2, .int x3, .int (x4 + (1 : Int32)), .long (gL m a2 x4.toNatClampNeg), eU]) rfl).trans ?_
      refine (x_goto D185_38).trans ?_
      rfl
    · refine (x_lload2 D185_32 rfl).trans ?_
      exact x_lret D185_34 M185.2.2.1
theorem D197_0 : decode (mB 197) 0 = .ok (.aload_n 0, 1) := by decide +kernel
theorem D197_1 : decode (mB 197) 1 = .ok (.aload_n 1, 1) := by decide +kernel
theorem D197_2 : GF 197 2 6 0 2 := ⟨10, false, by decide +kernel, by decide +kernel⟩
theorem D197_5 : PF 197 5 6 0 2 := ⟨10, false, by decide +kernel, by decide +kernel, by decide +kernel, by decide⟩
theorem D197_8 : decode (mB 197) 8 = .ok (.aload_n 0, 1) := by decide +kernel
theorem D197_9 : GF 197 9 6 1 2 := ⟨19, true, by decide +kernel, by decide +kernel⟩
theorem D197_12 : decode (mB 197) 12 = .ok (.aload_n 1, 1) := by decide +kernel
theorem D197_13 : GF 197 13 6 1 2 := ⟨19, true, by decide +kernel, by decide +kernel⟩
theorem D197_16 : CS 197 16 147 0 := ⟨.invokevirtual 44, by decide +kernel, by decide +kernel, by decide +kernel, by decide⟩
theorem D197_19 : decode (mB 197) 19 = .ok (.aload_n 0, 1) := by decide +kernel
theorem D197_20 : GF 197 20 6 2 2 := ⟨23, true, by decide +kernel, by decide +kernel⟩
theorem D197_23 : decode (mB 197) 23 = .ok (.aload_n 1, 1) := by decide +kernel
theorem D197_24 : GF 197 24 6 2 2 := ⟨23, true, by decide +kernel, by decide +kernel⟩
theorem D197_27 : CS 197 27 147 0 := ⟨.invokevirtual 44, by decide +kernel, by decide +kernel, by decide +kernel, by decide⟩
theorem D197_30 : decode (mB 197) 30 = .ok (.aload_n 0, 1) := by decide +kernel
theorem D197_31 : GF 197 31 6 3 2 := ⟨29, true, by decide +kernel, by decide +kernel⟩
theorem D197_34 : decode (mB 197) 34 = .ok (.aload_n 1, 1) := by decide +kernel
theorem D197_35 : GF 197 35 6 3 2 := ⟨29, true, by decide +kernel, by decide +kernel⟩
theorem D197_38 : CS 197 38 198 0 := ⟨.invokevirtual 48, by decide +kernel, by decide +kernel, by decide +kernel, by decide⟩
theorem D197_41 : decode (mB 197) 41 = .ok (.aload_n 0, 1) := by decide +kernel
theorem D197_42 : GF 197 42 6 4 2 := ⟨33, true, by decide +kernel, by decide +kernel⟩
theorem D197_45 : decode (mB 197) 45 = .ok (.aload_n 1, 1) := by decide +kernel
theorem D197_46 : GF 197 46 6 4 2 := ⟨33, true, by decide +kernel, by decide +kernel⟩
theorem D197_49 : CS 197 49 198 0 := ⟨.invokevirtual 48, by decide +kernel, by decide +kernel, by decide +kernel, by decide⟩
theorem D197_52 : decode (mB 197) 52 = .ok (.aload_n 0, 1) := by decide +kernel
theorem D197_53 : decode (mB 197) 53 = .ok (.aload_n 1, 1) := by decide +kernel
theorem D197_54 : GF 197 54 6 5 0 := ⟨40, false, by decide +kernel, by decide +kernel⟩
theorem D197_57 : PF 197 57 6 5 0 := ⟨40, false, by decide +kernel, by decide +kernel, by decide +kernel, by decide⟩
theorem D197_60 : decode (mB 197) 60 = .ok (.return_, 1) := by decide +kernel
theorem St_copy_e (d : Nat) (a0 : Nat) (a1 : Nat) (m : eM) (h_a0 : kd a0 = 6) (h_a1 : kd a1 = 6) : St_copy (d + 1) a0 a1 m = bR (gR m a1 0) fun r1 => mQ m a0 0 (some r1) fun m2 => bR (gR m2 a0 1) fun r3 => bR (gR m2 a1 1) fun r4 => gd r3 7 (bV (Tk_copy d r3 r4 m2) fun m6 => bR (gR m6 a0 2) fun r7 => bR (gR m6 a1 2) fun r8 => gd r7 7 (bV (Tk_copy d r7 r8 m6) fun m10 => bR (gR m10 a0 3) fun r11 => bR (gR m10 a1 3) fun r12 => gd r11 3 (bV (Lo_copy d r11 r12 m10) fun m14 => bR (gR m14 a0 4) fun r15 => bR (gR m14 a1 4) fun r16 => gd r15 3 (bV (Lo_copy d r15 r16 m14) fun m18 => mI m18 a0 5 (gI m18 a1 5) fun m19 => yV m19)))) := by
  unfold St_copy
  refine (x_aload1 D197_0 rfl).trans ?_
  refine (x_aload1 D197_1 rfl).trans ?_
  refine ((x_getR D197_2).trans (gd_t h_a1)).trans (bR_c fun r1 => ?_)
  refine (x_putR D197_5 h_a0).trans ?_
  refine mQ_i (fun m2 => X (d + 1) 197 8 [.ref a0, .ref a1] [] m2) _ ?_
  intro m2
  refine (x_aload1 D197_8 rfl).trans ?_
  refine ((x_getR D197_9).trans (gd_t h_a0)).trans (bR_c fun r3 => ?_)
  refine (x_aload1 D197_12 rfl).trans ?_
  refine ((x_getR D197_13).trans (gd_t h_a1)).trans (bR_c fun r4 => ?_)
  refine (x_cg D197_16 M147 rfl rfl).trans (gd_c fun h5 => ?_)
  refine (x_cV D197_16 M147  (I147 _ _) rfl rfl (ok_i M147 (I147 _ _) rfl rfl h5)).trans (bV_c fun m6 => ?_)
  refine (x_aload1 D197_19 rfl).trans ?_
  refine ((x_getR D197_20).trans (gd_t h_a0)).trans (bR_c fun r7 => ?_)
  refine (x_aload1 D197_23 rfl).trans ?_
  refine ((x_getR D197_24).trans (gd_t h_a1)).trans (bR_c fun r8 => ?_)
  refine (x_cg D197_27 M147 rfl rfl).trans (gd_c fun h9 => ?_)
  refine (x_cV D197_27 M147  (I147 _ _) rfl rfl (ok_i M147 (I147 _ _) rfl rfl h9)).trans (bV_c fun m10 => ?_)
  refine (x_aload1 D197_30 rfl).trans ?_
  refine ((x_getR D197_31).trans (gd_t h_a0)).trans (bR_c fun r11 => ?_)
  refine (x_aload1 D197_34 rfl).trans ?_
  refine ((x_getR D197_35).trans (gd_t h_a1)).trans (bR_c fun r12 => ?_)
  refine (x_cg D197_38 M198 rfl rfl).trans (gd_c fun h13 => ?_)
  refine (x_cV D197_38 M198  (I198 _ _) rfl rfl (ok_i M198 (I198 _ _) rfl rfl h13)).trans (bV_c fun m14 => ?_)
  refine (x_aload1 D197_41 rfl).trans ?_
  refine ((x_getR D197_42).trans (gd_t h_a0)).trans (bR_c fun r15 => ?_)
  refine (x_aload1 D197_45 rfl).trans ?_
  refine ((x_getR D197_46).trans (gd_t h_a1)).trans (bR_c fun r16 => ?_)
  refine (x_cg D197_49 M198 rfl rfl).trans (gd_c fun h17 => ?_)
  refine (x_cV D197_49 M198  (I198 _ _) rfl rfl (ok_i M198 (I198 _ _) rfl rfl h17)).trans (bV_c fun m18 => ?_)
  refine (x_aload1 D197_52 rfl).trans ?_
  refine (x_aload1 D197_53 rfl).trans ?_
  refine ((x_getI D197_54).trans (gd_t h_a1)).trans ?_
  refine (x_putI D197_57 h_a0).trans ?_
  refine mI_i (fun m19 => X (d + 1) 197 60 [.ref a0, .ref a1] [] m19) _ ?_
  intro m19
  exact x_vret D197_60 M197.2.2.1
theorem D198_0 : decode (mB 198) 0 = .ok (.aload_n 0, 1) := by decide +kernel
theorem D198_1 : decode (mB 198) 1 = .ok (.iconst 0, 1) := by decide +kernel
theorem D198_2 : PF 198 2 3 4 0 := ⟨24, false, by decide +kernel, by decide +kernel, by decide +kernel, by decide⟩
theorem D198_5 : decode (mB 198) 5 = .ok (.iconst 0, 1) := by decide +kernel
theorem D198_6 : decode (mB 198) 6 = .ok (.istore_n 2, 1) := by decide +kernel
theorem D198_7 : decode (mB 198) 7 = .ok (.iload_n 2, 1) := by decide +kernel
theorem D198_8 : decode (mB 198) 8 = .ok (.aload_n 1, 1) := by decide +kernel
theorem D198_9 : GF 198 9 3 4 0 := ⟨24, false, by decide +kernel, by decide +kernel⟩
theorem D198_12 : BR 198 12 (.if_icmp .ge 34) (34) 46 := ⟨by decide +kernel, by decide, by decide⟩
theorem D198_46 : decode (mB 198) 46 = .ok (.return_, 1) := by decide +kernel
theorem D198_15 : decode (mB 198) 15 = .ok (.aload_n 0, 1) := by decide +kernel
theorem D198_16 : decode (mB 198) 16 = .ok (.aload_n 1, 1) := by decide +kernel
theorem D198_17 : decode (mB 198) 17 = .ok (.iload_n 2, 1) := by decide +kernel
theorem D198_18 : CS 198 18 99 0 := ⟨.invokevirtual 32, by decide +kernel, by decide +kernel, by decide +kernel, by decide⟩
theorem D198_21 : decode (mB 198) 21 = .ok (.aload_n 1, 1) := by decide +kernel
theorem D198_22 : decode (mB 198) 22 = .ok (.iload_n 2, 1) := by decide +kernel
theorem D198_23 : CS 198 23 101 0 := ⟨.invokevirtual 36, by decide +kernel, by decide +kernel, by decide +kernel, by decide⟩
theorem D198_26 : decode (mB 198) 26 = .ok (.aload_n 1, 1) := by decide +kernel
theorem D198_27 : decode (mB 198) 27 = .ok (.iload_n 2, 1) := by decide +kernel
theorem D198_28 : CS 198 28 110 0 := ⟨.invokevirtual 39, by decide +kernel, by decide +kernel, by decide +kernel, by decide⟩
theorem D198_31 : decode (mB 198) 31 = .ok (.aload_n 1, 1) := by decide +kernel
theorem D198_32 : decode (mB 198) 32 = .ok (.iload_n 2, 1) := by decide +kernel
theorem D198_33 : CS 198 33 111 0 := ⟨.invokevirtual 42, by decide +kernel, by decide +kernel, by decide +kernel, by decide⟩
theorem D198_36 : CS 198 36 92 0 := ⟨.invokevirtual 45, by decide +kernel, by decide +kernel, by decide +kernel, by decide⟩
theorem D198_39 : decode (mB 198) 39 = .ok (.pop, 1) := by decide +kernel
theorem D198_40 : decode (mB 198) 40 = .ok (.iinc 2 1, 3) := by decide +kernel
theorem D198_43 : BR 198 43 (.goto (-36)) (-36) 7 := ⟨by decide +kernel, by decide, by decide⟩
theorem Lo_copy_e (d : Nat) (a0 : Nat) (a1 : Nat) (m : eM) (h_a0 : kd a0 = 3) (h_a1 : kd a1 = 3) : Lo_copy (d + 1) a0 a1 m = mI m a0 4 (0 : Int32) fun m1 => Lo_copy_7 (d + 1) a0 a1 (0 : Int32) m1 := by
  unfold Lo_copy
  refine (x_aload1 D198_0 rfl).trans ?_
  refine (x_iconst D198_1 (k := 0) (by decide)).trans ?_
  refine (x_putI D198_2 h_a0).trans ?_
  refine mI_i (fun m1 => X (d + 1) 198 5 [.ref a0, .ref a1, eU] [] m1) _ ?_
  intro m1
  refine (x_iconst D198_5 (k := 0) (by decide)).trans ?_
  refine (x_istore1 D198_6 (ls' := [.ref a0, .ref a1, .int (0 : Int32)]) rfl rfl).trans ?_
  rfl
theorem Lo_copy_7_e (d : Nat) (a0 : Nat) (a1 : Nat) (x2 : Int32) (m : eM) (h_a0 : kd a0 = 3) (h_a1 : kd a1 = 3) : Lo_copy_7 (d + 1) a0 a1 x2 m = if (gI m a1 4) ≤ x2 then (yV m) else (bI (Lo_cock d a1 x2 m) fun v2 m1 => bI (Lo_minute d a1 x2 m1) fun v4 m3 => bI (Lo_from d a1 x2 m3) fun v6 m5 => bI (Lo_to d a1 x2 m5) fun v8 m7 => bI (Lo_add d a0 v2 v4 v6 v8 m7) fun v10 m9 => Lo_copy_7 (d + 1) a0 a1 (x2 + (1 : Int32)) m9) := by
  unfold Lo_copy_7
  refine (x_iload1 D198_7 rfl).trans ?_
  refine (x_aload1 D198_8 rfl).trans ?_
  refine ((x_getI D198_9).trans (gd_t h_a1)).trans ?_
  refine (x_cge D198_12).trans (i_c ?_ ?_)
  · exact x_vret D198_46 M198.2.2.1
  · refine (x_aload1 D198_15 rfl).trans ?_
    refine (x_aload1 D198_16 rfl).trans ?_
    refine (x_iload1 D198_17 rfl).trans ?_
    refine (x_cI D198_18 M99 (fun z => by cases z) (I99 _ _) rfl rfl (ok_i M99 (I99 _ _) rfl rfl h_a1)).trans (bI_c fun v2 m1 => ?_)
    refine (x_aload1 D198_21 rfl).trans ?_
    refine (x_iload1 D198_22 rfl).trans ?_
    refine (x_cI D198_23 M101 (fun z => by cases z) (I101 _ _) rfl rfl (ok_i M101 (I101 _ _) rfl rfl h_a1)).trans (bI_c fun v4 m3 => ?_)
    refine (x_aload1 D198_26 rfl).trans ?_
    refine (x_iload1 D198_27 rfl).trans ?_
    refine (x_cI D198_28 M110 (fun z => by cases z) (I110 _ _) rfl rfl (ok_i M110 (I110 _ _) rfl rfl h_a1)).trans (bI_c fun v6 m5 => ?_)
    refine (x_aload1 D198_31 rfl).trans ?_
    refine (x_iload1 D198_32 rfl).trans ?_
    refine (x_cI D198_33 M111 (fun z => by cases z) (I111 _ _) rfl rfl (ok_i M111 (I111 _ _) rfl rfl h_a1)).trans (bI_c fun v8 m7 => ?_)
    refine (x_cI D198_36 M92 (fun z => by cases z) (I92 _ _ _ _ _) rfl rfl (ok_i M92 (I92 _ _ _ _ _) rfl rfl h_a0)).trans (bI_c fun v10 m9 => ?_)
    refine (x_pop D198_39 rfl).trans ?_
    refine (x_iinc D198_40 rfl (k := 1) (by decide) (ls' := [.ref a0, .ref a1, .int (x2 + (1 : Int32))]) rfl).trans ?_
    refine (x_goto D198_43).trans ?_
    rfl
