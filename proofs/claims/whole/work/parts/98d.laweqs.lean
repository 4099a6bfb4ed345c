/-! ===== equations: LiarsCockLaw (printed by wip/whole/gen17.py) ===== -/
theorem La_law_e (d : Nat) (a0 : Nat) (m : eM)  : La_law (d + 1) a0 m = nw m 12 9 fun a1 m2 => gd a1 9 (bV (LC_init d a1 m2) fun m4 => nw m4 69 10 fun a5 m6 => gd a5 10 (bV (Mo_init d a5 m6) fun m8 => nA m8 21 (1 : Int32) fun a9 m10 => La_law_23 (d + 1) a0 a1 a5 a9 (0 : Int32) eU eU m10)) := by
  unfold La_law
  refine (x_new D309_0).trans (nw_c fun a1 m2 => ?_)
  refine (x_dup1 D309_3 rfl).trans ?_
  refine (x_cg D309_4 M0 rfl rfl).trans (gd_c fun h3 => ?_)
  refine (x_cV D309_4 M0  (I0 _) rfl rfl (ok_i M0 (I0 _) rfl rfl h3)).trans (bV_c fun m4 => ?_)
  refine (x_astore1 D309_7 (ls' := [.ref a0, .ref a1, eU, eU, eU, eU, eU, eU]) rfl rfl).trans ?_
  refine (x_new D309_8).trans (nw_c fun a5 m6 => ?_)
  refine (x_dup1 D309_11 rfl).trans ?_
  refine (x_cg D309_12 M204 rfl rfl).trans (gd_c fun h7 => ?_)
  refine (x_cV D309_12 M204  (I204 _) rfl rfl (ok_i M204 (I204 _) rfl rfl h7)).trans (bV_c fun m8 => ?_)
  refine (x_astore1 D309_15 (ls' := [.ref a0, .ref a1, .ref a5, eU, eU, eU, eU, eU]) rfl rfl).trans ?_
  refine (x_iconst D309_16 (k := 1) (by decide)).trans ?_
  refine (x_newJ D309_17).trans (nA_c fun a9 m10 => ?_)
  refine (x_astore1 D309_19 (ls' := [.ref a0, .ref a1, .ref a5, .ref a9, eU, eU, eU, eU]) rfl rfl).trans ?_
  refine (x_iconst D309_20 (k := 0) (by decide)).trans ?_
  refine (x_istore2 D309_21 (ls' := [.ref a0, .ref a1, .ref a5, .ref a9, .int (0 : Int32), eU, eU, eU]) rfl rfl).trans ?_
  rfl
theorem La_law_23_e (d : Nat) (a0 : Nat) (a1 : Nat) (a2 : Nat) (a3 : Nat) (x4 : Int32) (w5 : Value) (w6 : Value) (m : eM) (h_a1 : kd a1 = 9) (h_a2 : kd a2 = 10) : La_law_23 (d + 1) a0 a1 a2 a3 x4 w5 w6 m = gl a0 (if (((aln m a0).toInt32) - (7 : Int32)) < x4 then (yI (1 : Int32) m) else (ga m a0 20 x4 (tsw (0 : Int32) [La_law_204 (d + 1) a0 a1 a2 a3 x4 w5 w6 m, La_law_351 (d + 1) a0 a1 a2 a3 x4 w5 w6 m, La_law_364 (d + 1) a0 a1 a2 a3 x4 w5 w6 m, La_law_401 (d + 1) a0 a1 a2 a3 x4 w5 w6 m, La_law_438 (d + 1) a0 a1 a2 a3 x4 w5 w6 m, La_law_463 (d + 1) a0 a1 a2 a3 x4 w5 w6 m, La_law_524 (d + 1) a0 a1 a2 a3 x4 w5 w6 m, La_law_561 (d + 1) a0 a1 a2 a3 x4 w5 w6 m, La_law_586 (d + 1) a0 a1 a2 a3 x4 w5 w6 m, La_law_623 (d + 1) a0 a1 a2 a3 x4 w5 w6 m, La_law_672 (d + 1) a0 a1 a2 a3 x4 w5 w6 m, La_law_697 (d + 1) a0 a1 a2 a3 x4 w5 w6 m, La_law_722 (d + 1) a0 a1 a2 a3 x4 w5 w6 m, La_law_747 (d + 1) a0 a1 a2 a3 x4 w5 w6 m, La_law_785 (d + 1) a0 a1 a2 a3 x4 w5 w6 m, La_law_822 (d + 1) a0 a1 a2 a3 x4 w5 w6 m, La_law_847 (d + 1) a0 a1 a2 a3 x4 w5 w6 m, La_law_908 (d + 1) a0 a1 a2 a3 x4 w5 w6 m, La_law_969 (d + 1) a0 a1 a2 a3 x4 w5 w6 m, La_law_1058 (d + 1) a0 a1 a2 a3 x4 w5 w6 m, La_law_1071 (d + 1) a0 a1 a2 a3 x4 w5 w6 m, La_law_1108 (d + 1) a0 a1 a2 a3 x4 w5 w6 m, La_law_1169 (d + 1) a0 a1 a2 a3 x4 w5 w6 m, La_law_1206 (d + 1) a0 a1 a2 a3 x4 w5 w6 m, La_law_1243 (d + 1) a0 a1 a2 a3 x4 w5 w6 m, La_law_1280 (d + 1) a0 a1 a2 a3 x4 w5 w6 m, La_law_1383 (d + 1) a0 a1 a2 a3 x4 w5 w6 m, La_law_1420 (d + 1) a0 a1 a2 a3 x4 w5 w6 m, La_law_1457 (d + 1) a0 a1 a2 a3 x4 w5 w6 m, La_law_1482 (d + 1) a0 a1 a2 a3 x4 w5 w6 m, La_law_1519 (d + 1) a0 a1 a2 a3 x4 w5 w6 m, La_law_1556 (d + 1) a0 a1 a2 a3 x4 w5 w6 m, La_law_1605 (d + 1) a0 a1 a2 a3 x4 w5 w6 m, La_law_1642 (d + 1) a0 a1 a2 a3 x4 w5 w6 m, La_law_1703 (d + 1) a0 a1 a2 a3 x4 w5 w6 m, La_law_1740 (d + 1) a0 a1 a2 a3 x4 w5 w6 m, La_law_1793 (d + 1) a0 a1 a2 a3 x4 w5 w6 m] (La_law_1818 (d + 1) a0 a1 a2 a3 x4 w5 w6 m) ((gI m a0 x4.toNatClampNeg) &&& (63 : Int32))))) := by
  unfold La_law_23
  refine (x_iload2 D309_23 rfl).trans ?_
  refine (x_aload1 D309_25 rfl).trans ?_
  refine (x_alen D309_26).trans (gl_c ?_)
  refine (x_bipush D309_27 (k := 7) (by decide)).trans ?_
  refine (x_isub D309_29).trans ?_
  refine (x_cgt D309_30).trans (i_c ?_ ?_)
  · refine (x_iconst D309_1824 (k := 1) (by decide)).trans ?_
    exact (x_bret D309_1825 M309.2.2.1).trans yB1
  · refine (x_aload1 D309_33 rfl).trans ?_
    refine (x_iload2 D309_34 rfl).trans ?_
    refine (x_iaload D309_36).trans (ga_c ?_)
    refine (x_bipush D309_37 (k := 63) (by decide)).trans ?_
    refine (x_iand D309_39).trans ?_
    refine (x_tab D309_40 (k := 0) (by decide)).trans ?_
    refine tsw_c ?_ ?_
    · rfl
    refine tsw_c ?_ ?_
    · rfl
    refine tsw_c ?_ ?_
    · rfl
    refine tsw_c ?_ ?_
    · rfl
    refine tsw_c ?_ ?_
    · rfl
    refine tsw_c ?_ ?_
    · rfl
    refine tsw_c ?_ ?_
    · rfl
    refine tsw_c ?_ ?_
    · rfl
    refine tsw_c ?_ ?_
    · rfl
    refine tsw_c ?_ ?_
    · rfl
    refine tsw_c ?_ ?_
    · rfl
    refine tsw_c ?_ ?_
    · rfl
    refine tsw_c ?_ ?_
    · rfl
    refine tsw_c ?_ ?_
    · rfl
    refine tsw_c ?_ ?_
    · rfl
    refine tsw_c ?_ ?_
    · rfl
    refine tsw_c ?_ ?_
    · rfl
    refine tsw_c ?_ ?_
    · rfl
    refine tsw_c ?_ ?_
    · rfl
    refine tsw_c ?_ ?_
    · rfl
    refine tsw_c ?_ ?_
    · rfl
    refine tsw_c ?_ ?_
    · rfl
    refine tsw_c ?_ ?_
    · rfl
    refine tsw_c ?_ ?_
    · rfl
    refine tsw_c ?_ ?_
    · rfl
    refine tsw_c ?_ ?_
    · rfl
    refine tsw_c ?_ ?_
    · rfl
    refine tsw_c ?_ ?_
    · rfl
    refine tsw_c ?_ ?_
    · rfl
    refine tsw_c ?_ ?_
    · rfl
    refine tsw_c ?_ ?_
    · rfl
    refine tsw_c ?_ ?_
    · rfl
    refine tsw_c ?_ ?_
    · rfl
    refine tsw_c ?_ ?_
    · rfl
    refine tsw_c ?_ ?_
    · rfl
    refine tsw_c ?_ ?_
    · rfl
    refine tsw_c ?_ ?_
    · rfl
    refine tsw_d ?_
    rfl
theorem La_law_204_e (d : Nat) (a0 : Nat) (a1 : Nat) (a2 : Nat) (a3 : Nat) (x4 : Int32) (w5 : Value) (w6 : Value) (m : eM) (h_a1 : kd a1 = 9) (h_a2 : kd a2 = 10) : La_law_204 (d + 1) a0 a1 a2 a3 x4 w5 w6 m = ga m a0 20 (x4 + (1 : Int32)) (ga m a0 20 (x4 + (2 : Int32)) (ga m a0 20 (x4 + (3 : Int32)) (ga m a0 20 (x4 + (4 : Int32)) (ga m a0 20 (x4 + (5 : Int32)) (ga m a0 20 (x4 + (6 : Int32)) (bI (LC_feed d a1 ((((gI m a0 (x4 + (1 : Int32)).toNatClampNeg).toInt64) <<< ((32 : Int32).toInt64 &&& 63)) ||| (((gI m a0 (x4 + (2 : Int32)).toNatClampNeg).toInt64) &&& (4294967295 : Int64))) ((((gI m a0 (x4 + (3 : Int32)).toNatClampNeg).toInt64) <<< ((32 : Int32).toInt64 &&& 63)) ||| (((gI m a0 (x4 + (4 : Int32)).toNatClampNeg).toInt64) &&& (4294967295 : Int64))) ((((gI m a0 (x4 + (5 : Int32)).toNatClampNeg).toInt64) <<< ((32 : Int32).toInt64 &&& 63)) ||| (((gI m a0 (x4 + (6 : Int32)).toNatClampNeg).toInt64) &&& (4294967295 : Int64))) m) fun v2 m1 => ga m1 a0 20 (x4 + (1 : Int32)) (ga m1 a0 20 (x4 + (2 : Int32)) (ga m1 a0 20 (x4 + (3 : Int32)) (ga m1 a0 20 (x4 + (4 : Int32)) (ga m1 a0 20 (x4 + (5 : Int32)) (ga m1 a0 20 (x4 + (6 : Int32)) (bI (Mo_feed d a2 ((((gI m1 a0 (x4 + (1 : Int32)).toNatClampNeg).toInt64) <<< ((32 : Int32).toInt64 &&& 63)) ||| (((gI m1 a0 (x4 + (2 : Int32)).toNatClampNeg).toInt64) &&& (4294967295 : Int64))) ((((gI m1 a0 (x4 + (3 : Int32)).toNatClampNeg).toInt64) <<< ((32 : Int32).toInt64 &&& 63)) ||| (((gI m1 a0 (x4 + (4 : Int32)).toNatClampNeg).toInt64) &&& (4294967295 : Int64))) ((((gI m1 a0 (x4 + (5 : Int32)).toNatClampNeg).toInt64) <<< ((32 : Int32).toInt64 &&& 63)) ||| (((gI m1 a0 (x4 + (6 : Int32)).toNatClampNeg).toInt64) &&& (4294967295 : Int64))) m1) fun v4 m3 => if v2 = v4 then (La_law_1818 (d + 1) a0 a1 a2 a3 x4 w5 w6 m3) else (yI (0 : Int32) m3))))))))))))) := by
  unfold La_law_204
  refine (x_aload1 D309_204 rfl).trans ?_
  refine (x_aload1 D309_205 rfl).trans ?_
  refine (x_iload2 D309_206 rfl).trans ?_
  refine (x_iconst D309_208 (k := 1) (by decide)).trans ?_
  refine (x_iadd D309_209).trans ?_
  refine (x_iaload D309_210).trans (ga_c ?_)
  refine (x_i2l D309_211).trans ?_
  refine (x_bipush D309_212 (k := 32) (by decide)).trans ?_
  refine (x_lshl D309_214).trans ?_
  refine (x_aload1 D309_215 rfl).trans ?_
  refine (x_iload2 D309_216 rfl).trans ?_
  refine (x_iconst D309_218 (k := 2) (by decide)).trans ?_
  refine (x_iadd D309_219).trans ?_
  refine (x_iaload D309_220).trans (ga_c ?_)
  refine (x_i2l D309_221).trans ?_
  refine (x_ldc2 D309_222 R309_222).trans ?_
  refine (x_land D309_225).trans ?_
  refine (x_lor D309_226).trans ?_
  refine (x_aload1 D309_227 rfl).trans ?_
  refine (x_iload2 D309_228 rfl).trans ?_
  refine (x_iconst D309_230 (k := 3) (by decide)).trans ?_
  refine (x_iadd D309_231).trans ?_
  refine (x_iaload D309_232).trans (ga_c ?_)
  refine (x_i2l D309_233).trans ?_
  refine (x_bipush D309_234 (k := 32) (by decide)).trans ?_
  refine (x_lshl D309_236).trans ?_
  refine (x_aload1 D309_237 rfl).trans ?_
  refine (x_iload2 D309_238 rfl).trans ?_
  refine (x_iconst D309_240 (k := 4) (by decide)).trans ?_
  refine (x_iadd D309_241).trans ?_
  refine (x_iaload D309_242).trans (ga_c ?_)
  refine (x_i2l D309_243).trans ?_
  refine (x_ldc2 D309_244 R309_244).trans ?_
  refine (x_land D309_247).trans ?_
  refine (x_lor D309_248).trans ?_
  refine (x_aload1 D309_249 rfl).trans ?_
  refine (x_iload2 D309_250 rfl).trans ?_
  refine (x_iconst D309_252 (k := 5) (by decide)).trans ?_
  refine (x_iadd D309_253).trans ?_
  refine (x_iaload D309_254).trans (ga_c ?_)
  refine (x_i2l D309_255).trans ?_
  refine (x_bipush D309_256 (k := 32) (by decide)).trans ?_
  refine (x_lshl D309_258).trans ?_
  refine (x_aload1 D309_259 rfl).trans ?_
  refine (x_iload2 D309_260 rfl).trans ?_
  refine (x_bipush D309_262 (k := 6) (by decide)).trans ?_
  refine (x_iadd D309_264).trans ?_
  refine (x_iaload D309_265).trans (ga_c ?_)
  refine (x_i2l D309_266).trans ?_
  refine (x_ldc2 D309_267 R309_267).trans ?_
  refine (x_land D309_270).trans ?_
  refine (x_lor D309_271).trans ?_
  refine (x_cI D309_272 M10 (fun z => by cases z) (I10 _ _ _ _) rfl rfl (ok_i M10 (I10 _ _ _ _) rfl rfl h_a1)).trans (bI_c fun v2 m1 => ?_)
  refine (x_aload1 D309_275 rfl).trans ?_
  refine (x_aload1 D309_276 rfl).trans ?_
  refine (x_iload2 D309_277 rfl).trans ?_
  refine (x_iconst D309_279 (k := 1) (by decide)).trans ?_
  refine (x_iadd D309_280).trans ?_
  refine (x_iaload D309_281).trans (ga_c ?_)
  refine (x_i2l D309_282).trans ?_
  refine (x_bipush D309_283 (k := 32) (by decide)).trans ?_
  refine (x_lshl D309_285).trans ?_
  refine (x_aload1 D309_286 rfl).trans ?_
  refine (x_iload2 D309_287 rfl).trans ?_
  refine (x_iconst D309_289 (k := 2) (by decide)).trans ?_
  refine (x_iadd D309_290).trans ?_
  refine (x_iaload D309_291).trans (ga_c ?_)
  refine (x_i2l D309_292).trans ?_
  refine (x_ldc2 D309_293 R309_293).trans ?_
  refine (x_land D309_296).trans ?_
  refine (x_lor D309_297).trans ?_
  refine (x_aload1 D309_298 rfl).trans ?_
  refine (x_iload2 D309_299 rfl).trans ?_
  refine (x_iconst D309_301 (k := 3) (by decide)).trans ?_
  refine (x_iadd D309_302).trans ?_
  refine (x_iaload D309_303).trans (ga_c ?_)
  refine (x_i2l D309_304).trans ?_
  refine (x_bipush D309_305 (k := 32) (by decide)).trans ?_
  refine (x_lshl D309_307).trans ?_
  refine (x_aload1 D309_308 rfl).trans ?_
  refine (x_iload2 D309_309 rfl).trans ?_
  refine (x_iconst D309_311 (k := 4) (by decide)).trans ?_
  refine (x_iadd D309_312).trans ?_
  refine (x_iaload D309_313).trans (ga_c ?_)
  refine (x_i2l D309_314).trans ?_
  refine (x_ldc2 D309_315 R309_315).trans ?_
  refine (x_land D309_318).trans ?_
  refine (x_lor D309_319).trans ?_
  refine (x_aload1 D309_320 rfl).trans ?_
  refine (x_iload2 D309_321 rfl).trans ?_
  refine (x_iconst D309_323 (k := 5) (by decide)).trans ?_
  refine (x_iadd D309_324).trans ?_
  refine (x_iaload D309_325).trans (ga_c ?_)
  refine (x_i2l D309_326).trans ?_
  refine (x_bipush D309_327 (k := 32) (by decide)).trans ?_
  refine (x_lshl D309_329).trans ?_
  refine (x_aload1 D309_330 rfl).trans ?_
  refine (x_iload2 D309_331 rfl).trans ?_
  refine (x_bipush D309_333 (k := 6) (by decide)).trans ?_
  refine (x_iadd D309_335).trans ?_
  refine (x_iaload D309_336).trans (ga_c ?_)
  refine (x_i2l D309_337).trans ?_
  refine (x_ldc2 D309_338 R309_338).trans ?_
  refine (x_land D309_341).trans ?_
  refine (x_lor D309_342).trans ?_
  refine (x_cI D309_343 M207 (fun z => by cases z) (I207 _ _ _ _) rfl rfl (ok_i M207 (I207 _ _ _ _) rfl rfl h_a2)).trans (bI_c fun v4 m3 => ?_)
  refine (x_ceq D309_346).trans (i_c ?_ ?_)
  · rfl
  · refine (x_iconst D309_349 (k := 0) (by decide)).trans ?_
    exact (x_bret D309_350 M309.2.2.1).trans yB0
theorem La_law_351_e (d : Nat) (a0 : Nat) (a1 : Nat) (a2 : Nat) (a3 : Nat) (x4 : Int32) (w5 : Value) (w6 : Value) (m : eM) (h_a1 : kd a1 = 9) (h_a2 : kd a2 = 10) : La_law_351 (d + 1) a0 a1 a2 a3 x4 w5 w6 m = bI (LC_parish d a1 m) fun v2 m1 => bI (Mo_parish d a2 m1) fun v4 m3 => if v2 = v4 then (La_law_1818 (d + 1) a0 a1 a2 a3 x4 w5 w6 m3) else (yI (0 : Int32) m3) := by
  unfold La_law_351
  refine (x_aload1 D309_351 rfl).trans ?_
  refine (x_cI D309_352 M13 (fun z => by cases z) (I13 _) rfl rfl (ok_i M13 (I13 _) rfl rfl h_a1)).trans (bI_c fun v2 m1 => ?_)
  refine (x_aload1 D309_355 rfl).trans ?_
  refine (x_cI D309_356 M208 (fun z => by cases z) (I208 _) rfl rfl (ok_i M208 (I208 _) rfl rfl h_a2)).trans (bI_c fun v4 m3 => ?_)
  refine (x_ceq D309_359).trans (i_c ?_ ?_)
  · rfl
  · refine (x_iconst D309_362 (k := 0) (by decide)).trans ?_
    exact (x_bret D309_363 M309.2.2.1).trans yB0
theorem La_law_364_e (d : Nat) (a0 : Nat) (a1 : Nat) (a2 : Nat) (a3 : Nat) (x4 : Int32) (w5 : Value) (w6 : Value) (m : eM) (h_a1 : kd a1 = 9) (h_a2 : kd a2 = 10) : La_law_364 (d + 1) a0 a1 a2 a3 x4 w5 w6 m = ga m a0 20 (x4 + (1 : Int32)) (ga m a0 20 (x4 + (2 : Int32)) (bI (LC_say d a1 (gI m a0 (x4 + (1 : Int32)).toNatClampNeg) (gI m a0 (x4 + (2 : Int32)).toNatClampNeg) m) fun v2 m1 => ga m1 a0 20 (x4 + (1 : Int32)) (ga m1 a0 20 (x4 + (2 : Int32)) (bI (Mo_say d a2 (gI m1 a0 (x4 + (1 : Int32)).toNatClampNeg) (gI m1 a0 (x4 + (2 : Int32)).toNatClampNeg) m1) fun v4 m3 => if v2 = v4 then (La_law_1818 (d + 1) a0 a1 a2 a3 x4 w5 w6 m3) else (yI (0 : Int32) m3))))) := by
  unfold La_law_364
  refine (x_aload1 D309_364 rfl).trans ?_
  refine (x_aload1 D309_365 rfl).trans ?_
  refine (x_iload2 D309_366 rfl).trans ?_
  refine (x_iconst D309_368 (k := 1) (by decide)).trans ?_
  refine (x_iadd D309_369).trans ?_
  refine (x_iaload D309_370).trans (ga_c ?_)
  refine (x_aload1 D309_371 rfl).trans ?_
  refine (x_iload2 D309_372 rfl).trans ?_
  refine (x_iconst D309_374 (k := 2) (by decide)).trans ?_
  refine (x_iadd D309_375).trans ?_
  refine (x_iaload D309_376).trans (ga_c ?_)
  refine (x_cI D309_377 M66 (fun z => by cases z) (I66 _ _ _) rfl rfl (ok_i M66 (I66 _ _ _) rfl rfl h_a1)).trans (bI_c fun v2 m1 => ?_)
  refine (x_aload1 D309_380 rfl).trans ?_
  refine (x_aload1 D309_381 rfl).trans ?_
  refine (x_iload2 D309_382 rfl).trans ?_
  refine (x_iconst D309_384 (k := 1) (by decide)).trans ?_
  refine (x_iadd D309_385).trans ?_
  refine (x_iaload D309_386).trans (ga_c ?_)
  refine (x_aload1 D309_387 rfl).trans ?_
  refine (x_iload2 D309_388 rfl).trans ?_
  refine (x_iconst D309_390 (k := 2) (by decide)).trans ?_
  refine (x_iadd D309_391).trans ?_
  refine (x_iaload D309_392).trans (ga_c ?_)
  refine (x_cI D309_393 M235 (fun z => by cases z) (I235 _ _ _) rfl rfl (ok_i M235 (I235 _ _ _) rfl rfl h_a2)).trans (bI_c fun v4 m3 => ?_)
  refine (x_ceq D309_396).trans (i_c ?_ ?_)
  · rfl
  · refine (x_iconst D309_399 (k := 0) (by decide)).trans ?_
    exact (x_bret D309_400 M309.2.2.1).trans yB0
theorem La_law_401_e (d : Nat) (a0 : Nat) (a1 : Nat) (a2 : Nat) (a3 : Nat) (x4 : Int32) (w5 : Value) (w6 : Value) (m : eM) (h_a1 : kd a1 = 9) (h_a2 : kd a2 = 10) : La_law_401 (d + 1) a0 a1 a2 a3 x4 w5 w6 m = ga m a0 20 (x4 + (1 : Int32)) (ga m a0 20 (x4 + (2 : Int32)) (bI (LC_offer d a1 (gI m a0 (x4 + (1 : Int32)).toNatClampNeg) (gI m a0 (x4 + (2 : Int32)).toNatClampNeg) m) fun v2 m1 => ga m1 a0 20 (x4 + (1 : Int32)) (ga m1 a0 20 (x4 + (2 : Int32)) (bI (Mo_offer d a2 (gI m1 a0 (x4 + (1 : Int32)).toNatClampNeg) (gI m1 a0 (x4 + (2 : Int32)).toNatClampNeg) m1) fun v4 m3 => if v2 = v4 then (La_law_1818 (d + 1) a0 a1 a2 a3 x4 w5 w6 m3) else (yI (0 : Int32) m3))))) := by
  unfold La_law_401
  refine (x_aload1 D309_401 rfl).trans ?_
  refine (x_aload1 D309_402 rfl).trans ?_
  refine (x_iload2 D309_403 rfl).trans ?_
  refine (x_iconst D309_405 (k := 1) (by decide)).trans ?_
  refine (x_iadd D309_406).trans ?_
  refine (x_iaload D309_407).trans (ga_c ?_)
  refine (x_aload1 D309_408 rfl).trans ?_
  refine (x_iload2 D309_409 rfl).trans ?_
  refine (x_iconst D309_411 (k := 2) (by decide)).trans ?_
  refine (x_iadd D309_412).trans ?_
  refine (x_iaload D309_413).trans (ga_c ?_)
  refine (x_cI D309_414 M85 (fun z => by cases z) (I85 _ _ _) rfl rfl (ok_i M85 (I85 _ _ _) rfl rfl h_a1)).trans (bI_c fun v2 m1 => ?_)
  refine (x_aload1 D309_417 rfl).trans ?_
  refine (x_aload1 D309_418 rfl).trans ?_
  refine (x_iload2 D309_419 rfl).trans ?_
  refine (x_iconst D309_421 (k := 1) (by decide)).trans ?_
  refine (x_iadd D309_422).trans ?_
  refine (x_iaload D309_423).trans (ga_c ?_)
  refine (x_aload1 D309_424 rfl).trans ?_
  refine (x_iload2 D309_425 rfl).trans ?_
  refine (x_iconst D309_427 (k := 2) (by decide)).trans ?_
  refine (x_iadd D309_428).trans ?_
  refine (x_iaload D309_429).trans (ga_c ?_)
  refine (x_cI D309_430 M239 (fun z => by cases z) (I239 _ _ _) rfl rfl (ok_i M239 (I239 _ _ _) rfl rfl h_a2)).trans (bI_c fun v4 m3 => ?_)
  refine (x_ceq D309_433).trans (i_c ?_ ?_)
  · rfl
  · refine (x_iconst D309_436 (k := 0) (by decide)).trans ?_
    exact (x_bret D309_437 M309.2.2.1).trans yB0
theorem La_law_438_e (d : Nat) (a0 : Nat) (a1 : Nat) (a2 : Nat) (a3 : Nat) (x4 : Int32) (w5 : Value) (w6 : Value) (m : eM) (h_a1 : kd a1 = 9) (h_a2 : kd a2 = 10) : La_law_438 (d + 1) a0 a1 a2 a3 x4 w5 w6 m = ga m a0 20 (x4 + (1 : Int32)) (bI (LC_truth d a1 (gI m a0 (x4 + (1 : Int32)).toNatClampNeg) m) fun v2 m1 => ga m1 a0 20 (x4 + (1 : Int32)) (bI (Mo_truth d a2 (gI m1 a0 (x4 + (1 : Int32)).toNatClampNeg) m1) fun v4 m3 => if v2 = v4 then (La_law_1818 (d + 1) a0 a1 a2 a3 x4 w5 w6 m3) else (yI (0 : Int32) m3))) := by
  unfold La_law_438
  refine (x_aload1 D309_438 rfl).trans ?_
  refine (x_aload1 D309_439 rfl).trans ?_
  refine (x_iload2 D309_440 rfl).trans ?_
  refine (x_iconst D309_442 (k := 1) (by decide)).trans ?_
  refine (x_iadd D309_443).trans ?_
  refine (x_iaload D309_444).trans (ga_c ?_)
  refine (x_cI D309_445 M86 (fun z => by cases z) (I86 _ _) rfl rfl (ok_i M86 (I86 _ _) rfl rfl h_a1)).trans (bI_c fun v2 m1 => ?_)
  refine (x_aload1 D309_448 rfl).trans ?_
  refine (x_aload1 D309_449 rfl).trans ?_
  refine (x_iload2 D309_450 rfl).trans ?_
  refine (x_iconst D309_452 (k := 1) (by decide)).trans ?_
  refine (x_iadd D309_453).trans ?_
  refine (x_iaload D309_454).trans (ga_c ?_)
  refine (x_cI D309_455 M240 (fun z => by cases z) (I240 _ _) rfl rfl (ok_i M240 (I240 _ _) rfl rfl h_a2)).trans (bI_c fun v4 m3 => ?_)
  refine (x_ceq D309_458).trans (i_c ?_ ?_)
  · rfl
  · refine (x_iconst D309_461 (k := 0) (by decide)).trans ?_
    exact (x_bret D309_462 M309.2.2.1).trans yB0
theorem La_law_463_e (d : Nat) (a0 : Nat) (a1 : Nat) (a2 : Nat) (a3 : Nat) (x4 : Int32) (w5 : Value) (w6 : Value) (m : eM) (h_a1 : kd a1 = 9) (h_a2 : kd a2 = 10) : La_law_463 (d + 1) a0 a1 a2 a3 x4 w5 w6 m = ga m a0 20 (x4 + (1 : Int32)) (ga m a0 20 (x4 + (2 : Int32)) (ga m a0 20 (x4 + (3 : Int32)) (ga m a0 20 (x4 + (4 : Int32)) (bI (LC_look d a1 (gI m a0 (x4 + (1 : Int32)).toNatClampNeg) (gI m a0 (x4 + (2 : Int32)).toNatClampNeg) (gI m a0 (x4 + (3 : Int32)).toNatClampNeg) (gI m a0 (x4 + (4 : Int32)).toNatClampNeg) m) fun v2 m1 => ga m1 a0 20 (x4 + (1 : Int32)) (ga m1 a0 20 (x4 + (2 : Int32)) (ga m1 a0 20 (x4 + (3 : Int32)) (ga m1 a0 20 (x4 + (4 : Int32)) (bI (Mo_look d a2 (gI m1 a0 (x4 + (1 : Int32)).toNatClampNeg) (gI m1 a0 (x4 + (2 : Int32)).toNatClampNeg) (gI m1 a0 (x4 + (3 : Int32)).toNatClampNeg) (gI m1 a0 (x4 + (4 : Int32)).toNatClampNeg) m1) fun v4 m3 => if v2 = v4 then (La_law_1818 (d + 1) a0 a1 a2 a3 x4 w5 w6 m3) else (yI (0 : Int32) m3))))))))) := by
  unfold La_law_463
  refine (x_aload1 D309_463 rfl).trans ?_
  refine (x_aload1 D309_464 rfl).trans ?_
  refine (x_iload2 D309_465 rfl).trans ?_
  refine (x_iconst D309_467 (k := 1) (by decide)).trans ?_
  refine (x_iadd D309_468).trans ?_
  refine (x_iaload D309_469).trans (ga_c ?_)
  refine (x_aload1 D309_470 rfl).trans ?_
  refine (x_iload2 D309_471 rfl).trans ?_
  refine (x_iconst D309_473 (k := 2) (by decide)).trans ?_
  refine (x_iadd D309_474).trans ?_
  refine (x_iaload D309_475).trans (ga_c ?_)
  refine (x_aload1 D309_476 rfl).trans ?_
  refine (x_iload2 D309_477 rfl).trans ?_
  refine (x_iconst D309_479 (k := 3) (by decide)).trans ?_
  refine (x_iadd D309_480).trans ?_
  refine (x_iaload D309_481).trans (ga_c ?_)
  refine (x_aload1 D309_482 rfl).trans ?_
  refine (x_iload2 D309_483 rfl).trans ?_
  refine (x_iconst D309_485 (k := 4) (by decide)).trans ?_
  refine (x_iadd D309_486).trans ?_
  refine (x_iaload D309_487).trans (ga_c ?_)
  refine (x_cI D309_488 M88 (fun z => by cases z) (I88 _ _ _ _ _) rfl rfl (ok_i M88 (I88 _ _ _ _ _) rfl rfl h_a1)).trans (bI_c fun v2 m1 => ?_)
  refine (x_aload1 D309_491 rfl).trans ?_
  refine (x_aload1 D309_492 rfl).trans ?_
  refine (x_iload2 D309_493 rfl).trans ?_
  refine (x_iconst D309_495 (k := 1) (by decide)).trans ?_
  refine (x_iadd D309_496).trans ?_
  refine (x_iaload D309_497).trans (ga_c ?_)
  refine (x_aload1 D309_498 rfl).trans ?_
  refine (x_iload2 D309_499 rfl).trans ?_
  refine (x_iconst D309_501 (k := 2) (by decide)).trans ?_
  refine (x_iadd D309_502).trans ?_
  refine (x_iaload D309_503).trans (ga_c ?_)
  refine (x_aload1 D309_504 rfl).trans ?_
  refine (x_iload2 D309_505 rfl).trans ?_
  refine (x_iconst D309_507 (k := 3) (by decide)).trans ?_
  refine (x_iadd D309_508).trans ?_
  refine (x_iaload D309_509).trans (ga_c ?_)
  refine (x_aload1 D309_510 rfl).trans ?_
  refine (x_iload2 D309_511 rfl).trans ?_
  refine (x_iconst D309_513 (k := 4) (by decide)).trans ?_
  refine (x_iadd D309_514).trans ?_
  refine (x_iaload D309_515).trans (ga_c ?_)
  refine (x_cI D309_516 M251 (fun z => by cases z) (I251 _ _ _ _ _) rfl rfl (ok_i M251 (I251 _ _ _ _ _) rfl rfl h_a2)).trans (bI_c fun v4 m3 => ?_)
  refine (x_ceq D309_519).trans (i_c ?_ ?_)
  · rfl
  · refine (x_iconst D309_522 (k := 0) (by decide)).trans ?_
    exact (x_bret D309_523 M309.2.2.1).trans yB0
theorem La_law_524_e (d : Nat) (a0 : Nat) (a1 : Nat) (a2 : Nat) (a3 : Nat) (x4 : Int32) (w5 : Value) (w6 : Value) (m : eM) (h_a1 : kd a1 = 9) (h_a2 : kd a2 = 10) : La_law_524 (d + 1) a0 a1 a2 a3 x4 w5 w6 m = ga m a0 20 (x4 + (1 : Int32)) (ga m a0 20 (x4 + (2 : Int32)) (bI (LC_watch d a1 (gI m a0 (x4 + (1 : Int32)).toNatClampNeg) (gI m a0 (x4 + (2 : Int32)).toNatClampNeg) m) fun v2 m1 => ga m1 a0 20 (x4 + (1 : Int32)) (ga m1 a0 20 (x4 + (2 : Int32)) (bI (Mo_watch d a2 (gI m1 a0 (x4 + (1 : Int32)).toNatClampNeg) (gI m1 a0 (x4 + (2 : Int32)).toNatClampNeg) m1) fun v4 m3 => if v2 = v4 then (La_law_1818 (d + 1) a0 a1 a2 a3 x4 w5 w6 m3) else (yI (0 : Int32) m3))))) := by
  unfold La_law_524
  refine (x_aload1 D309_524 rfl).trans ?_
  refine (x_aload1 D309_525 rfl).trans ?_
  refine (x_iload2 D309_526 rfl).trans ?_
  refine (x_iconst D309_528 (k := 1) (by decide)).trans ?_
  refine (x_iadd D309_529).trans ?_
  refine (x_iaload D309_530).trans (ga_c ?_)
  refine (x_aload1 D309_531 rfl).trans ?_
  refine (x_iload2 D309_532 rfl).trans ?_
  refine (x_iconst D309_534 (k := 2) (by decide)).trans ?_
  refine (x_iadd D309_535).trans ?_
  refine (x_iaload D309_536).trans (ga_c ?_)
  refine (x_cI D309_537 M93 (fun z => by cases z) (I93 _ _ _) rfl rfl (ok_i M93 (I93 _ _ _) rfl rfl h_a1)).trans (bI_c fun v2 m1 => ?_)
  refine (x_aload1 D309_540 rfl).trans ?_
  refine (x_aload1 D309_541 rfl).trans ?_
  refine (x_iload2 D309_542 rfl).trans ?_
  refine (x_iconst D309_544 (k := 1) (by decide)).trans ?_
  refine (x_iadd D309_545).trans ?_
  refine (x_iaload D309_546).trans (ga_c ?_)
  refine (x_aload1 D309_547 rfl).trans ?_
  refine (x_iload2 D309_548 rfl).trans ?_
  refine (x_iconst D309_550 (k := 2) (by decide)).trans ?_
  refine (x_iadd D309_551).trans ?_
  refine (x_iaload D309_552).trans (ga_c ?_)
  refine (x_cI D309_553 M283 (fun z => by cases z) (I283 _ _ _) rfl rfl (ok_i M283 (I283 _ _ _) rfl rfl h_a2)).trans (bI_c fun v4 m3 => ?_)
  refine (x_ceq D309_556).trans (i_c ?_ ?_)
  · rfl
  · refine (x_iconst D309_559 (k := 0) (by decide)).trans ?_
    exact (x_bret D309_560 M309.2.2.1).trans yB0
theorem La_law_561_e (d : Nat) (a0 : Nat) (a1 : Nat) (a2 : Nat) (a3 : Nat) (x4 : Int32) (w5 : Value) (w6 : Value) (m : eM) (h_a1 : kd a1 = 9) (h_a2 : kd a2 = 10) : La_law_561 (d + 1) a0 a1 a2 a3 x4 w5 w6 m = ga m a0 20 (x4 + (1 : Int32)) (bI (LC_world d a1 (gI m a0 (x4 + (1 : Int32)).toNatClampNeg) m) fun v2 m1 => ga m1 a0 20 (x4 + (1 : Int32)) (bI (Mo_world d a2 (gI m1 a0 (x4 + (1 : Int32)).toNatClampNeg) m1) fun v4 m3 => if v2 = v4 then (La_law_1818 (d + 1) a0 a1 a2 a3 x4 w5 w6 m3) else (yI (0 : Int32) m3))) := by
  unfold La_law_561
  refine (x_aload1 D309_561 rfl).trans ?_
  refine (x_aload1 D309_562 rfl).trans ?_
  refine (x_iload2 D309_563 rfl).trans ?_
  refine (x_iconst D309_565 (k := 1) (by decide)).trans ?_
  refine (x_iadd D309_566).trans ?_
  refine (x_iaload D309_567).trans (ga_c ?_)
  refine (x_cI D309_568 M94 (fun z => by cases z) (I94 _ _) rfl rfl (ok_i M94 (I94 _ _) rfl rfl h_a1)).trans (bI_c fun v2 m1 => ?_)
  refine (x_aload1 D309_571 rfl).trans ?_
  refine (x_aload1 D309_572 rfl).trans ?_
  refine (x_iload2 D309_573 rfl).trans ?_
  refine (x_iconst D309_575 (k := 1) (by decide)).trans ?_
  refine (x_iadd D309_576).trans ?_
  refine (x_iaload D309_577).trans (ga_c ?_)
  refine (x_cI D309_578 M253 (fun z => by cases z) (I253 _ _) rfl rfl (ok_i M253 (I253 _ _) rfl rfl h_a2)).trans (bI_c fun v4 m3 => ?_)
  refine (x_ceq D309_581).trans (i_c ?_ ?_)
  · rfl
  · refine (x_iconst D309_584 (k := 0) (by decide)).trans ?_
    exact (x_bret D309_585 M309.2.2.1).trans yB0
theorem La_law_586_e (d : Nat) (a0 : Nat) (a1 : Nat) (a2 : Nat) (a3 : Nat) (x4 : Int32) (w5 : Value) (w6 : Value) (m : eM) (h_a1 : kd a1 = 9) (h_a2 : kd a2 = 10) : La_law_586 (d + 1) a0 a1 a2 a3 x4 w5 w6 m = ga m a0 20 (x4 + (1 : Int32)) (ga m a0 20 (x4 + (2 : Int32)) (bI (LC_lie d a1 (gI m a0 (x4 + (1 : Int32)).toNatClampNeg) (gI m a0 (x4 + (2 : Int32)).toNatClampNeg) m) fun v2 m1 => ga m1 a0 20 (x4 + (1 : Int32)) (ga m1 a0 20 (x4 + (2 : Int32)) (bI (Mo_lie d a2 (gI m1 a0 (x4 + (1 : Int32)).toNatClampNeg) (gI m1 a0 (x4 + (2 : Int32)).toNatClampNeg) m1) fun v4 m3 => if v2 = v4 then (La_law_1818 (d + 1) a0 a1 a2 a3 x4 w5 w6 m3) else (yI (0 : Int32) m3))))) := by
  unfold La_law_586
  refine (x_aload1 D309_586 rfl).trans ?_
  refine (x_aload1 D309_587 rfl).trans ?_
  refine (x_iload2 D309_588 rfl).trans ?_
  refine (x_iconst D309_590 (k := 1) (by decide)).trans ?_
  refine (x_iadd D309_591).trans ?_
  refine (x_iaload D309_592).trans (ga_c ?_)
  refine (x_aload1 D309_593 rfl).trans ?_
  refine (x_iload2 D309_594 rfl).trans ?_
  refine (x_iconst D309_596 (k := 2) (by decide)).trans ?_
  refine (x_iadd D309_597).trans ?_
  refine (x_iaload D309_598).trans (ga_c ?_)
  refine (x_cI D309_599 M114 (fun z => by cases z) (I114 _ _ _) rfl rfl (ok_i M114 (I114 _ _ _) rfl rfl h_a1)).trans (bI_c fun v2 m1 => ?_)
  refine (x_aload1 D309_602 rfl).trans ?_
  refine (x_aload1 D309_603 rfl).trans ?_
  refine (x_iload2 D309_604 rfl).trans ?_
  refine (x_iconst D309_606 (k := 1) (by decide)).trans ?_
  refine (x_iadd D309_607).trans ?_
  refine (x_iaload D309_608).trans (ga_c ?_)
  refine (x_aload1 D309_609 rfl).trans ?_
  refine (x_iload2 D309_610 rfl).trans ?_
  refine (x_iconst D309_612 (k := 2) (by decide)).trans ?_
  refine (x_iadd D309_613).trans ?_
  refine (x_iaload D309_614).trans (ga_c ?_)
  refine (x_cI D309_615 M242 (fun z => by cases z) (I242 _ _ _) rfl rfl (ok_i M242 (I242 _ _ _) rfl rfl h_a2)).trans (bI_c fun v4 m3 => ?_)
  refine (x_ceq D309_618).trans (i_c ?_ ?_)
  · rfl
  · refine (x_iconst D309_621 (k := 0) (by decide)).trans ?_
    exact (x_bret D309_622 M309.2.2.1).trans yB0
theorem La_law_623_e (d : Nat) (a0 : Nat) (a1 : Nat) (a2 : Nat) (a3 : Nat) (x4 : Int32) (w5 : Value) (w6 : Value) (m : eM) (h_a1 : kd a1 = 9) (h_a2 : kd a2 = 10) : La_law_623 (d + 1) a0 a1 a2 a3 x4 w5 w6 m = ga m a0 20 (x4 + (1 : Int32)) (ga m a0 20 (x4 + (2 : Int32)) (ga m a0 20 (x4 + (3 : Int32)) (bI (LC_points d a1 (gI m a0 (x4 + (1 : Int32)).toNatClampNeg) (gI m a0 (x4 + (2 : Int32)).toNatClampNeg) (gI m a0 (x4 + (3 : Int32)).toNatClampNeg) m) fun v2 m1 => ga m1 a0 20 (x4 + (1 : Int32)) (ga m1 a0 20 (x4 + (2 : Int32)) (ga m1 a0 20 (x4 + (3 : Int32)) (bI (Mo_points d a2 (gI m1 a0 (x4 + (1 : Int32)).toNatClampNeg) (gI m1 a0 (x4 + (2 : Int32)).toNatClampNeg) (gI m1 a0 (x4 + (3 : Int32)).toNatClampNeg) m1) fun v4 m3 => if v2 = v4 then (La_law_1818 (d + 1) a0 a1 a2 a3 x4 w5 w6 m3) else (yI (0 : Int32) m3))))))) := by
  unfold La_law_623
  refine (x_aload1 D309_623 rfl).trans ?_
  refine (x_aload1 D309_624 rfl).trans ?_
  refine (x_iload2 D309_625 rfl).trans ?_
  refine (x_iconst D309_627 (k := 1) (by decide)).trans ?_
  refine (x_iadd D309_628).trans ?_
  refine (x_iaload D309_629).trans (ga_c ?_)
  refine (x_aload1 D309_630 rfl).trans ?_
  refine (x_iload2 D309_631 rfl).trans ?_
  refine (x_iconst D309_633 (k := 2) (by decide)).trans ?_
  refine (x_iadd D309_634).trans ?_
  refine (x_iaload D309_635).trans (ga_c ?_)
  refine (x_aload1 D309_636 rfl).trans ?_
  refine (x_iload2 D309_637 rfl).trans ?_
  refine (x_iconst D309_639 (k := 3) (by decide)).trans ?_
  refine (x_iadd D309_640).trans ?_
  refine (x_iaload D309_641).trans (ga_c ?_)
  refine (x_cI D309_642 M116 (fun z => by cases z) (I116 _ _ _ _) rfl rfl (ok_i M116 (I116 _ _ _ _) rfl rfl h_a1)).trans (bI_c fun v2 m1 => ?_)
  refine (x_aload1 D309_645 rfl).trans ?_
  refine (x_aload1 D309_646 rfl).trans ?_
  refine (x_iload2 D309_647 rfl).trans ?_
  refine (x_iconst D309_649 (k := 1) (by decide)).trans ?_
  refine (x_iadd D309_650).trans ?_
  refine (x_iaload D309_651).trans (ga_c ?_)
  refine (x_aload1 D309_652 rfl).trans ?_
  refine (x_iload2 D309_653 rfl).trans ?_
  refine (x_iconst D309_655 (k := 2) (by decide)).trans ?_
  refine (x_iadd D309_656).trans ?_
  refine (x_iaload D309_657).trans (ga_c ?_)
  refine (x_aload1 D309_658 rfl).trans ?_
  refine (x_iload2 D309_659 rfl).trans ?_
  refine (x_iconst D309_661 (k := 3) (by decide)).trans ?_
  refine (x_iadd D309_662).trans ?_
  refine (x_iaload D309_663).trans (ga_c ?_)
  refine (x_cI D309_664 M246 (fun z => by cases z) (I246 _ _ _ _) rfl rfl (ok_i M246 (I246 _ _ _ _) rfl rfl h_a2)).trans (bI_c fun v4 m3 => ?_)
  refine (x_ceq D309_667).trans (i_c ?_ ?_)
  · rfl
  · refine (x_iconst D309_670 (k := 0) (by decide)).trans ?_
    exact (x_bret D309_671 M309.2.2.1).trans yB0
