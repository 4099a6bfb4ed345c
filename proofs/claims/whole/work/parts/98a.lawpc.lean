/-! ===== equations: LiarsCockLaw, its instructions (printed by wip/whole/gen17.py) ===== -/
theorem D309_0 : NW 309 0 9 12 := ⟨8, by decide +kernel, by decide +kernel, by decide, by decide +kernel, by decide +kernel⟩
theorem D309_3 : decode (mB 309) 3 = .ok (.dup, 1) := by decide +kernel
theorem D309_4 : CS 309 4 0 1 := ⟨.invokespecial 15, by decide +kernel, by decide +kernel, by decide +kernel, by decide⟩
theorem D309_7 : decode (mB 309) 7 = .ok (.astore_n 1, 1) := by decide +kernel
theorem D309_8 : NW 309 8 10 69 := ⟨16, by decide +kernel, by decide +kernel, by decide, by decide +kernel, by decide +kernel⟩
theorem D309_11 : decode (mB 309) 11 = .ok (.dup, 1) := by decide +kernel
theorem D309_12 : CS 309 12 204 1 := ⟨.invokespecial 18, by decide +kernel, by decide +kernel, by decide +kernel, by decide⟩
theorem D309_15 : decode (mB 309) 15 = .ok (.astore_n 2, 1) := by decide +kernel
theorem D309_16 : decode (mB 309) 16 = .ok (.iconst 1, 1) := by decide +kernel
theorem D309_17 : decode (mB 309) 17 = .ok (.newarray .long, 2) := by decide +kernel
theorem D309_19 : decode (mB 309) 19 = .ok (.astore_n 3, 1) := by decide +kernel
theorem D309_20 : decode (mB 309) 20 = .ok (.iconst 0, 1) := by decide +kernel
theorem D309_21 : decode (mB 309) 21 = .ok (.istore 4, 2) := by decide +kernel
theorem D309_23 : decode (mB 309) 23 = .ok (.iload 4, 2) := by decide +kernel
theorem D309_25 : decode (mB 309) 25 = .ok (.aload_n 0, 1) := by decide +kernel
theorem D309_26 : decode (mB 309) 26 = .ok (.arraylength, 1) := by decide +kernel
theorem D309_27 : decode (mB 309) 27 = .ok (.bipush 7, 2) := by decide +kernel
theorem D309_29 : decode (mB 309) 29 = .ok (.isub, 1) := by decide +kernel
theorem D309_30 : BR 309 30 (.if_icmp .gt 1794) (1794) 1824 := ⟨by decide +kernel, by decide, by decide⟩
theorem D309_1824 : decode (mB 309) 1824 = .ok (.iconst 1, 1) := by decide +kernel
theorem D309_1825 : decode (mB 309) 1825 = .ok (.ireturn, 1) := by decide +kernel
theorem D309_33 : decode (mB 309) 33 = .ok (.aload_n 0, 1) := by decide +kernel
theorem D309_34 : decode (mB 309) 34 = .ok (.iload 4, 2) := by decide +kernel
theorem D309_36 : decode (mB 309) 36 = .ok (.iaload, 1) := by decide +kernel
theorem D309_37 : decode (mB 309) 37 = .ok (.bipush 63, 2) := by decide +kernel
theorem D309_39 : decode (mB 309) 39 = .ok (.iand, 1) := by decide +kernel
theorem D309_40 : TB 309 40 1818 (0) (36) [204, 351, 364, 401, 438, 463, 524, 561, 586, 623, 672, 697, 722, 747, 785, 822, 847, 908, 969, 1058, 1071, 1108, 1169, 1206, 1243, 1280, 1383, 1420, 1457, 1482, 1519, 1556, 1605, 1642, 1703, 1740, 1793] := ⟨#[164, 311, 324, 361, 398, 423, 484, 521, 546, 583, 632, 657, 682, 707, 745, 782, 807, 868, 929, 1018, 1031, 1068, 1129, 1166, 1203, 1240, 1343, 1380, 1417, 1442, 1479, 1516, 1565, 1602, 1663, 1700, 1753], 1778, 164, by decide +kernel, by decide +kernel⟩
theorem D309_204 : decode (mB 309) 204 = .ok (.aload_n 1, 1) := by decide +kernel
theorem D309_205 : decode (mB 309) 205 = .ok (.aload_n 0, 1) := by decide +kernel
theorem D309_206 : decode (mB 309) 206 = .ok (.iload 4, 2) := by decide +kernel
theorem D309_208 : decode (mB 309) 208 = .ok (.iconst 1, 1) := by decide +kernel
theorem D309_209 : decode (mB 309) 209 = .ok (.iadd, 1) := by decide +kernel
theorem D309_210 : decode (mB 309) 210 = .ok (.iaload, 1) := by decide +kernel
theorem D309_211 : decode (mB 309) 211 = .ok (.i2l, 1) := by decide +kernel
theorem D309_212 : decode (mB 309) 212 = .ok (.bipush 32, 2) := by decide +kernel
theorem D309_214 : decode (mB 309) 214 = .ok (.lshl, 1) := by decide +kernel
theorem D309_215 : decode (mB 309) 215 = .ok (.aload_n 0, 1) := by decide +kernel
theorem D309_216 : decode (mB 309) 216 = .ok (.iload 4, 2) := by decide +kernel
theorem D309_218 : decode (mB 309) 218 = .ok (.iconst 2, 1) := by decide +kernel
theorem D309_219 : decode (mB 309) 219 = .ok (.iadd, 1) := by decide +kernel
theorem D309_220 : decode (mB 309) 220 = .ok (.iaload, 1) := by decide +kernel
theorem D309_221 : decode (mB 309) 221 = .ok (.i2l, 1) := by decide +kernel
theorem R309_222 : lRes (mC 309) 19 = some (4294967295) := by decide +kernel
theorem D309_222 : decode (mB 309) 222 = .ok (.ldc2_w 19, 3) := by decide +kernel
theorem D309_225 : decode (mB 309) 225 = .ok (.land, 1) := by decide +kernel
theorem D309_226 : decode (mB 309) 226 = .ok (.lor, 1) := by decide +kernel
theorem D309_227 : decode (mB 309) 227 = .ok (.aload_n 0, 1) := by decide +kernel
theorem D309_228 : decode (mB 309) 228 = .ok (.iload 4, 2) := by decide +kernel
theorem D309_230 : decode (mB 309) 230 = .ok (.iconst 3, 1) := by decide +kernel
theorem D309_231 : decode (mB 309) 231 = .ok (.iadd, 1) := by decide +kernel
theorem D309_232 : decode (mB 309) 232 = .ok (.iaload, 1) := by decide +kernel
theorem D309_233 : decode (mB 309) 233 = .ok (.i2l, 1) := by decide +kernel
theorem D309_234 : decode (mB 309) 234 = .ok (.bipush 32, 2) := by decide +kernel
theorem D309_236 : decode (mB 309) 236 = .ok (.lshl, 1) := by decide +kernel
theorem D309_237 : decode (mB 309) 237 = .ok (.aload_n 0, 1) := by decide +kernel
theorem D309_238 : decode (mB 309) 238 = .ok (.iload 4, 2) := by decide +kernel
theorem D309_240 : decode (mB 309) 240 = .ok (.iconst 4, 1) := by decide +kernel
theorem D309_241 : decode (mB 309) 241 = .ok (.iadd, 1) := by decide +kernel
theorem D309_242 : decode (mB 309) 242 = .ok (.iaload, 1) := by decide +kernel
theorem D309_243 : decode (mB 309) 243 = .ok (.i2l, 1) := by decide +kernel
theorem R309_244 : lRes (mC 309) 19 = some (4294967295) := by decide +kernel
theorem D309_244 : decode (mB 309) 244 = .ok (.ldc2_w 19, 3) := by decide +kernel
theorem D309_247 : decode (mB 309) 247 = .ok (.land, 1) := by decide +kernel
theorem D309_248 : decode (mB 309) 248 = .ok (.lor, 1) := by decide +kernel
theorem D309_249 : decode (mB 309) 249 = .ok (.aload_n 0, 1) := by decide +kernel
theorem D309_250 : decode (mB 309) 250 = .ok (.iload 4, 2) := by decide +kernel
theorem D309_252 : decode (mB 309) 252 = .ok (.iconst 5, 1) := by decide +kernel
theorem D309_253 : decode (mB 309) 253 = .ok (.iadd, 1) := by decide +kernel
theorem D309_254 : decode (mB 309) 254 = .ok (.iaload, 1) := by decide +kernel
theorem D309_255 : decode (mB 309) 255 = .ok (.i2l, 1) := by decide +kernel
theorem D309_256 : decode (mB 309) 256 = .ok (.bipush 32, 2) := by decide +kernel
theorem D309_258 : decode (mB 309) 258 = .ok (.lshl, 1) := by decide +kernel
theorem D309_259 : decode (mB 309) 259 = .ok (.aload_n 0, 1) := by decide +kernel
theorem D309_260 : decode (mB 309) 260 = .ok (.iload 4, 2) := by decide +kernel
theorem D309_262 : decode (mB 309) 262 = .ok (.bipush 6, 2) := by decide +kernel
theorem D309_264 : decode (mB 309) 264 = .ok (.iadd, 1) := by decide +kernel
theorem D309_265 : decode (mB 309) 265 = .ok (.iaload, 1) := by decide +kernel
theorem D309_266 : decode (mB 309) 266 = .ok (.i2l, 1) := by decide +kernel
theorem R309_267 : lRes (mC 309) 19 = some (4294967295) := by decide +kernel
theorem D309_267 : decode (mB 309) 267 = .ok (.ldc2_w 19, 3) := by decide +kernel
theorem D309_270 : decode (mB 309) 270 = .ok (.land, 1) := by decide +kernel
theorem D309_271 : decode (mB 309) 271 = .ok (.lor, 1) := by decide +kernel
theorem D309_272 : CS 309 272 10 0 := ⟨.invokevirtual 21, by decide +kernel, by decide +kernel, by decide +kernel, by decide⟩
theorem D309_275 : decode (mB 309) 275 = .ok (.aload_n 2, 1) := by decide +kernel
theorem D309_276 : decode (mB 309) 276 = .ok (.aload_n 0, 1) := by decide +kernel
theorem D309_277 : decode (mB 309) 277 = .ok (.iload 4, 2) := by decide +kernel
theorem D309_279 : decode (mB 309) 279 = .ok (.iconst 1, 1) := by decide +kernel
theorem D309_280 : decode (mB 309) 280 = .ok (.iadd, 1) := by decide +kernel
theorem D309_281 : decode (mB 309) 281 = .ok (.iaload, 1) := by decide +kernel
theorem D309_282 : decode (mB 309) 282 = .ok (.i2l, 1) := by decide +kernel
theorem D309_283 : decode (mB 309) 283 = .ok (.bipush 32, 2) := by decide +kernel
theorem D309_285 : decode (mB 309) 285 = .ok (.lshl, 1) := by decide +kernel
theorem D309_286 : decode (mB 309) 286 = .ok (.aload_n 0, 1) := by decide +kernel
theorem D309_287 : decode (mB 309) 287 = .ok (.iload 4, 2) := by decide +kernel
theorem D309_289 : decode (mB 309) 289 = .ok (.iconst 2, 1) := by decide +kernel
theorem D309_290 : decode (mB 309) 290 = .ok (.iadd, 1) := by decide +kernel
theorem D309_291 : decode (mB 309) 291 = .ok (.iaload, 1) := by decide +kernel
theorem D309_292 : decode (mB 309) 292 = .ok (.i2l, 1) := by decide +kernel
theorem R309_293 : lRes (mC 309) 19 = some (4294967295) := by decide +kernel
theorem D309_293 : decode (mB 309) 293 = .ok (.ldc2_w 19, 3) := by decide +kernel
theorem D309_296 : decode (mB 309) 296 = .ok (.land, 1) := by decide +kernel
theorem D309_297 : decode (mB 309) 297 = .ok (.lor, 1) := by decide +kernel
theorem D309_298 : decode (mB 309) 298 = .ok (.aload_n 0, 1) := by decide +kernel
theorem D309_299 : decode (mB 309) 299 = .ok (.iload 4, 2) := by decide +kernel
theorem D309_301 : decode (mB 309) 301 = .ok (.iconst 3, 1) := by decide +kernel
theorem D309_302 : decode (mB 309) 302 = .ok (.iadd, 1) := by decide +kernel
theorem D309_303 : decode (mB 309) 303 = .ok (.iaload, 1) := by decide +kernel
theorem D309_304 : decode (mB 309) 304 = .ok (.i2l, 1) := by decide +kernel
theorem D309_305 : decode (mB 309) 305 = .ok (.bipush 32, 2) := by decide +kernel
theorem D309_307 : decode (mB 309) 307 = .ok (.lshl, 1) := by decide +kernel
theorem D309_308 : decode (mB 309) 308 = .ok (.aload_n 0, 1) := by decide +kernel
theorem D309_309 : decode (mB 309) 309 = .ok (.iload 4, 2) := by decide +kernel
theorem D309_311 : decode (mB 309) 311 = .ok (.iconst 4, 1) := by decide +kernel
theorem D309_312 : decode (mB 309) 312 = .ok (.iadd, 1) := by decide +kernel
theorem D309_313 : decode (mB 309) 313 = .ok (.iaload, 1) := by decide +kernel
theorem D309_314 : decode (mB 309) 314 = .ok (.i2l, 1) := by decide +kernel
theorem R309_315 : lRes (mC 309) 19 = some (4294967295) := by decide +kernel
theorem D309_315 : decode (mB 309) 315 = .ok (.ldc2_w 19, 3) := by decide +kernel
theorem D309_318 : decode (mB 309) 318 = .ok (.land, 1) := by decide +kernel
theorem D309_319 : decode (mB 309) 319 = .ok (.lor, 1) := by decide +kernel
theorem D309_320 : decode (mB 309) 320 = .ok (.aload_n 0, 1) := by decide +kernel
theorem D309_321 : decode (mB 309) 321 = .ok (.iload 4, 2) := by decide +kernel
theorem D309_323 : decode (mB 309) 323 = .ok (.iconst 5, 1) := by decide +kernel
theorem D309_324 : decode (mB 309) 324 = .ok (.iadd, 1) := by decide +kernel
theorem D309_325 : decode (mB 309) 325 = .ok (.iaload, 1) := by decide +kernel
theorem D309_326 : decode (mB 309) 326 = .ok (.i2l, 1) := by decide +kernel
theorem D309_327 : decode (mB 309) 327 = .ok (.bipush 32, 2) := by decide +kernel
theorem D309_329 : decode (mB 309) 329 = .ok (.lshl, 1) := by decide +kernel
theorem D309_330 : decode (mB 309) 330 = .ok (.aload_n 0, 1) := by decide +kernel
theorem D309_331 : decode (mB 309) 331 = .ok (.iload 4, 2) := by decide +kernel
theorem D309_333 : decode (mB 309) 333 = .ok (.bipush 6, 2) := by decide +kernel
theorem D309_335 : decode (mB 309) 335 = .ok (.iadd, 1) := by decide +kernel
theorem D309_336 : decode (mB 309) 336 = .ok (.iaload, 1) := by decide +kernel
theorem D309_337 : decode (mB 309) 337 = .ok (.i2l, 1) := by decide +kernel
theorem R309_338 : lRes (mC 309) 19 = some (4294967295) := by decide +kernel
theorem D309_338 : decode (mB 309) 338 = .ok (.ldc2_w 19, 3) := by decide +kernel
theorem D309_341 : decode (mB 309) 341 = .ok (.land, 1) := by decide +kernel
theorem D309_342 : decode (mB 309) 342 = .ok (.lor, 1) := by decide +kernel
theorem D309_343 : CS 309 343 207 0 := ⟨.invokevirtual 25, by decide +kernel, by decide +kernel, by decide +kernel, by decide⟩
theorem D309_346 : BR 309 346 (.if_icmp .eq 1472) (1472) 1818 := ⟨by decide +kernel, by decide, by decide⟩
theorem D309_349 : decode (mB 309) 349 = .ok (.iconst 0, 1) := by decide +kernel
theorem D309_350 : decode (mB 309) 350 = .ok (.ireturn, 1) := by decide +kernel
theorem D309_351 : decode (mB 309) 351 = .ok (.aload_n 1, 1) := by decide +kernel
theorem D309_352 : CS 309 352 13 0 := ⟨.invokevirtual 26, by decide +kernel, by decide +kernel, by decide +kernel, by decide⟩
theorem D309_355 : decode (mB 309) 355 = .ok (.aload_n 2, 1) := by decide +kernel
theorem D309_356 : CS 309 356 208 0 := ⟨.invokevirtual 30, by decide +kernel, by decide +kernel, by decide +kernel, by decide⟩
theorem D309_359 : BR 309 359 (.if_icmp .eq 1459) (1459) 1818 := ⟨by decide +kernel, by decide, by decide⟩
theorem D309_362 : decode (mB 309) 362 = .ok (.iconst 0, 1) := by decide +kernel
theorem D309_363 : decode (mB 309) 363 = .ok (.ireturn, 1) := by decide +kernel
theorem D309_364 : decode (mB 309) 364 = .ok (.aload_n 1, 1) := by decide +kernel
theorem D309_365 : decode (mB 309) 365 = .ok (.aload_n 0, 1) := by decide +kernel
theorem D309_366 : decode (mB 309) 366 = .ok (.iload 4, 2) := by decide +kernel
theorem D309_368 : decode (mB 309) 368 = .ok (.iconst 1, 1) := by decide +kernel
theorem D309_369 : decode (mB 309) 369 = .ok (.iadd, 1) := by decide +kernel
theorem D309_370 : decode (mB 309) 370 = .ok (.iaload, 1) := by decide +kernel
theorem D309_371 : decode (mB 309) 371 = .ok (.aload_n 0, 1) := by decide +kernel
theorem D309_372 : decode (mB 309) 372 = .ok (.iload 4, 2) := by decide +kernel
theorem D309_374 : decode (mB 309) 374 = .ok (.iconst 2, 1) := by decide +kernel
theorem D309_375 : decode (mB 309) 375 = .ok (.iadd, 1) := by decide +kernel
theorem D309_376 : decode (mB 309) 376 = .ok (.iaload, 1) := by decide +kernel
theorem D309_377 : CS 309 377 66 0 := ⟨.invokevirtual 31, by decide +kernel, by decide +kernel, by decide +kernel, by decide⟩
theorem D309_380 : decode (mB 309) 380 = .ok (.aload_n 2, 1) := by decide +kernel
theorem D309_381 : decode (mB 309) 381 = .ok (.aload_n 0, 1) := by decide +kernel
theorem D309_382 : decode (mB 309) 382 = .ok (.iload 4, 2) := by decide +kernel
theorem D309_384 : decode (mB 309) 384 = .ok (.iconst 1, 1) := by decide +kernel
theorem D309_385 : decode (mB 309) 385 = .ok (.iadd, 1) := by decide +kernel
theorem D309_386 : decode (mB 309) 386 = .ok (.iaload, 1) := by decide +kernel
theorem D309_387 : decode (mB 309) 387 = .ok (.aload_n 0, 1) := by decide +kernel
theorem D309_388 : decode (mB 309) 388 = .ok (.iload 4, 2) := by decide +kernel
theorem D309_390 : decode (mB 309) 390 = .ok (.iconst 2, 1) := by decide +kernel
theorem D309_391 : decode (mB 309) 391 = .ok (.iadd, 1) := by decide +kernel
theorem D309_392 : decode (mB 309) 392 = .ok (.iaload, 1) := by decide +kernel
theorem D309_393 : CS 309 393 235 0 := ⟨.invokevirtual 35, by decide +kernel, by decide +kernel, by decide +kernel, by decide⟩
theorem D309_396 : BR 309 396 (.if_icmp .eq 1422) (1422) 1818 := ⟨by decide +kernel, by decide, by decide⟩
theorem D309_399 : decode (mB 309) 399 = .ok (.iconst 0, 1) := by decide +kernel
theorem D309_400 : decode (mB 309) 400 = .ok (.ireturn, 1) := by decide +kernel
theorem D309_401 : decode (mB 309) 401 = .ok (.aload_n 1, 1) := by decide +kernel
theorem D309_402 : decode (mB 309) 402 = .ok (.aload_n 0, 1) := by decide +kernel
theorem D309_403 : decode (mB 309) 403 = .ok (.iload 4, 2) := by decide +kernel
theorem D309_405 : decode (mB 309) 405 = .ok (.iconst 1, 1) := by decide +kernel
theorem D309_406 : decode (mB 309) 406 = .ok (.iadd, 1) := by decide +kernel
theorem D309_407 : decode (mB 309) 407 = .ok (.iaload, 1) := by decide +kernel
theorem D309_408 : decode (mB 309) 408 = .ok (.aload_n 0, 1) := by decide +kernel
theorem D309_409 : decode (mB 309) 409 = .ok (.iload 4, 2) := by decide +kernel
theorem D309_411 : decode (mB 309) 411 = .ok (.iconst 2, 1) := by decide +kernel
theorem D309_412 : decode (mB 309) 412 = .ok (.iadd, 1) := by decide +kernel
theorem D309_413 : decode (mB 309) 413 = .ok (.iaload, 1) := by decide +kernel
theorem D309_414 : CS 309 414 85 0 := ⟨.invokevirtual 36, by decide +kernel, by decide +kernel, by decide +kernel, by decide⟩
theorem D309_417 : decode (mB 309) 417 = .ok (.aload_n 2, 1) := by decide +kernel
theorem D309_418 : decode (mB 309) 418 = .ok (.aload_n 0, 1) := by decide +kernel
theorem D309_419 : decode (mB 309) 419 = .ok (.iload 4, 2) := by decide +kernel
theorem D309_421 : decode (mB 309) 421 = .ok (.iconst 1, 1) := by decide +kernel
theorem D309_422 : decode (mB 309) 422 = .ok (.iadd, 1) := by decide +kernel
theorem D309_423 : decode (mB 309) 423 = .ok (.iaload, 1) := by decide +kernel
theorem D309_424 : decode (mB 309) 424 = .ok (.aload_n 0, 1) := by decide +kernel
theorem D309_425 : decode (mB 309) 425 = .ok (.iload 4, 2) := by decide +kernel
theorem D309_427 : decode (mB 309) 427 = .ok (.iconst 2, 1) := by decide +kernel
theorem D309_428 : decode (mB 309) 428 = .ok (.iadd, 1) := by decide +kernel
theorem D309_429 : decode (mB 309) 429 = .ok (.iaload, 1) := by decide +kernel
theorem D309_430 : CS 309 430 239 0 := ⟨.invokevirtual 39, by decide +kernel, by decide +kernel, by decide +kernel, by decide⟩
theorem D309_433 : BR 309 433 (.if_icmp .eq 1385) (1385) 1818 := ⟨by decide +kernel, by decide, by decide⟩
theorem D309_436 : decode (mB 309) 436 = .ok (.iconst 0, 1) := by decide +kernel
theorem D309_437 : decode (mB 309) 437 = .ok (.ireturn, 1) := by decide +kernel
theorem D309_438 : decode (mB 309) 438 = .ok (.aload_n 1, 1) := by decide +kernel
theorem D309_439 : decode (mB 309) 439 = .ok (.aload_n 0, 1) := by decide +kernel
theorem D309_440 : decode (mB 309) 440 = .ok (.iload 4, 2) := by decide +kernel
theorem D309_442 : decode (mB 309) 442 = .ok (.iconst 1, 1) := by decide +kernel
theorem D309_443 : decode (mB 309) 443 = .ok (.iadd, 1) := by decide +kernel
theorem D309_444 : decode (mB 309) 444 = .ok (.iaload, 1) := by decide +kernel
theorem D309_445 : CS 309 445 86 0 := ⟨.invokevirtual 40, by decide +kernel, by decide +kernel, by decide +kernel, by decide⟩
theorem D309_448 : decode (mB 309) 448 = .ok (.aload_n 2, 1) := by decide +kernel
theorem D309_449 : decode (mB 309) 449 = .ok (.aload_n 0, 1) := by decide +kernel
theorem D309_450 : decode (mB 309) 450 = .ok (.iload 4, 2) := by decide +kernel
theorem D309_452 : decode (mB 309) 452 = .ok (.iconst 1, 1) := by decide +kernel
theorem D309_453 : decode (mB 309) 453 = .ok (.iadd, 1) := by decide +kernel
theorem D309_454 : decode (mB 309) 454 = .ok (.iaload, 1) := by decide +kernel
theorem D309_455 : CS 309 455 240 0 := ⟨.invokevirtual 44, by decide +kernel, by decide +kernel, by decide +kernel, by decide⟩
theorem D309_458 : BR 309 458 (.if_icmp .eq 1360) (1360) 1818 := ⟨by decide +kernel, by decide, by decide⟩
theorem D309_461 : decode (mB 309) 461 = .ok (.iconst 0, 1) := by decide +kernel
theorem D309_462 : decode (mB 309) 462 = .ok (.ireturn, 1) := by decide +kernel
theorem D309_463 : decode (mB 309) 463 = .ok (.aload_n 1, 1) := by decide +kernel
theorem D309_464 : decode (mB 309) 464 = .ok (.aload_n 0, 1) := by decide +kernel
theorem D309_465 : decode (mB 309) 465 = .ok (.iload 4, 2) := by decide +kernel
theorem D309_467 : decode (mB 309) 467 = .ok (.iconst 1, 1) := by decide +kernel
theorem D309_468 : decode (mB 309) 468 = .ok (.iadd, 1) := by decide +kernel
theorem D309_469 : decode (mB 309) 469 = .ok (.iaload, 1) := by decide +kernel
theorem D309_470 : decode (mB 309) 470 = .ok (.aload_n 0, 1) := by decide +kernel
theorem D309_471 : decode (mB 309) 471 = .ok (.iload 4, 2) := by decide +kernel
theorem D309_473 : decode (mB 309) 473 = .ok (.iconst 2, 1) := by decide +kernel
theorem D309_474 : decode (mB 309) 474 = .ok (.iadd, 1) := by decide +kernel
theorem D309_475 : decode (mB 309) 475 = .ok (.iaload, 1) := by decide +kernel
theorem D309_476 : decode (mB 309) 476 = .ok (.aload_n 0, 1) := by decide +kernel
theorem D309_477 : decode (mB 309) 477 = .ok (.iload 4, 2) := by decide +kernel
theorem D309_479 : decode (mB 309) 479 = .ok (.iconst 3, 1) := by decide +kernel
theorem D309_480 : decode (mB 309) 480 = .ok (.iadd, 1) := by decide +kernel
theorem D309_481 : decode (mB 309) 481 = .ok (.iaload, 1) := by decide +kernel
theorem D309_482 : decode (mB 309) 482 = .ok (.aload_n 0, 1) := by decide +kernel
theorem D309_483 : decode (mB 309) 483 = .ok (.iload 4, 2) := by decide +kernel
theorem D309_485 : decode (mB 309) 485 = .ok (.iconst 4, 1) := by decide +kernel
theorem D309_486 : decode (mB 309) 486 = .ok (.iadd, 1) := by decide +kernel
theorem D309_487 : decode (mB 309) 487 = .ok (.iaload, 1) := by decide +kernel
theorem D309_488 : CS 309 488 88 0 := ⟨.invokevirtual 45, by decide +kernel, by decide +kernel, by decide +kernel, by decide⟩
theorem D309_491 : decode (mB 309) 491 = .ok (.aload_n 2, 1) := by decide +kernel
theorem D309_492 : decode (mB 309) 492 = .ok (.aload_n 0, 1) := by decide +kernel
theorem D309_493 : decode (mB 309) 493 = .ok (.iload 4, 2) := by decide +kernel
theorem D309_495 : decode (mB 309) 495 = .ok (.iconst 1, 1) := by decide +kernel
theorem D309_496 : decode (mB 309) 496 = .ok (.iadd, 1) := by decide +kernel
theorem D309_497 : decode (mB 309) 497 = .ok (.iaload, 1) := by decide +kernel
theorem D309_498 : decode (mB 309) 498 = .ok (.aload_n 0, 1) := by decide +kernel
theorem D309_499 : decode (mB 309) 499 = .ok (.iload 4, 2) := by decide +kernel
theorem D309_501 : decode (mB 309) 501 = .ok (.iconst 2, 1) := by decide +kernel
theorem D309_502 : decode (mB 309) 502 = .ok (.iadd, 1) := by decide +kernel
theorem D309_503 : decode (mB 309) 503 = .ok (.iaload, 1) := by decide +kernel
theorem D309_504 : decode (mB 309) 504 = .ok (.aload_n 0, 1) := by decide +kernel
theorem D309_505 : decode (mB 309) 505 = .ok (.iload 4, 2) := by decide +kernel
theorem D309_507 : decode (mB 309) 507 = .ok (.iconst 3, 1) := by decide +kernel
theorem D309_508 : decode (mB 309) 508 = .ok (.iadd, 1) := by decide +kernel
theorem D309_509 : decode (mB 309) 509 = .ok (.iaload, 1) := by decide +kernel
theorem D309_510 : decode (mB 309) 510 = .ok (.aload_n 0, 1) := by decide +kernel
theorem D309_511 : decode (mB 309) 511 = .ok (.iload 4, 2) := by decide +kernel
theorem D309_513 : decode (mB 309) 513 = .ok (.iconst 4, 1) := by decide +kernel
theorem D309_514 : decode (mB 309) 514 = .ok (.iadd, 1) := by decide +kernel
theorem D309_515 : decode (mB 309) 515 = .ok (.iaload, 1) := by decide +kernel
theorem D309_516 : CS 309 516 251 0 := ⟨.invokevirtual 49, by decide +kernel, by decide +kernel, by decide +kernel, by decide⟩
theorem D309_519 : BR 309 519 (.if_icmp .eq 1299) (1299) 1818 := ⟨by decide +kernel, by decide, by decide⟩
theorem D309_522 : decode (mB 309) 522 = .ok (.iconst 0, 1) := by decide +kernel
theorem D309_523 : decode (mB 309) 523 = .ok (.ireturn, 1) := by decide +kernel
theorem D309_524 : decode (mB 309) 524 = .ok (.aload_n 1, 1) := by decide +kernel
theorem D309_525 : decode (mB 309) 525 = .ok (.aload_n 0, 1) := by decide +kernel
theorem D309_526 : decode (mB 309) 526 = .ok (.iload 4, 2) := by decide +kernel
theorem D309_528 : decode (mB 309) 528 = .ok (.iconst 1, 1) := by decide +kernel
theorem D309_529 : decode (mB 309) 529 = .ok (.iadd, 1) := by decide +kernel
theorem D309_530 : decode (mB 309) 530 = .ok (.iaload, 1) := by decide +kernel
theorem D309_531 : decode (mB 309) 531 = .ok (.aload_n 0, 1) := by decide +kernel
theorem D309_532 : decode (mB 309) 532 = .ok (.iload 4, 2) := by decide +kernel
theorem D309_534 : decode (mB 309) 534 = .ok (.iconst 2, 1) := by decide +kernel
theorem D309_535 : decode (mB 309) 535 = .ok (.iadd, 1) := by decide +kernel
theorem D309_536 : decode (mB 309) 536 = .ok (.iaload, 1) := by decide +kernel
theorem D309_537 : CS 309 537 93 0 := ⟨.invokevirtual 50, by decide +kernel, by decide +kernel, by decide +kernel, by decide⟩
theorem D309_540 : decode (mB 309) 540 = .ok (.aload_n 2, 1) := by decide +kernel
theorem D309_541 : decode (mB 309) 541 = .ok (.aload_n 0, 1) := by decide +kernel
theorem D309_542 : decode (mB 309) 542 = .ok (.iload 4, 2) := by decide +kernel
theorem D309_544 : decode (mB 309) 544 = .ok (.iconst 1, 1) := by decide +kernel
theorem D309_545 : decode (mB 309) 545 = .ok (.iadd, 1) := by decide +kernel
theorem D309_546 : decode (mB 309) 546 = .ok (.iaload, 1) := by decide +kernel
theorem D309_547 : decode (mB 309) 547 = .ok (.aload_n 0, 1) := by decide +kernel
theorem D309_548 : decode (mB 309) 548 = .ok (.iload 4, 2) := by decide +kernel
theorem D309_550 : decode (mB 309) 550 = .ok (.iconst 2, 1) := by decide +kernel
theorem D309_551 : decode (mB 309) 551 = .ok (.iadd, 1) := by decide +kernel
theorem D309_552 : decode (mB 309) 552 = .ok (.iaload, 1) := by decide +kernel
theorem D309_553 : CS 309 553 283 0 := ⟨.invokevirtual 53, by decide +kernel, by decide +kernel, by decide +kernel, by decide⟩
theorem D309_556 : BR 309 556 (.if_icmp .eq 1262) (1262) 1818 := ⟨by decide +kernel, by decide, by decide⟩
theorem D309_559 : decode (mB 309) 559 = .ok (.iconst 0, 1) := by decide +kernel
theorem D309_560 : decode (mB 309) 560 = .ok (.ireturn, 1) := by decide +kernel
theorem D309_561 : decode (mB 309) 561 = .ok (.aload_n 1, 1) := by decide +kernel
theorem D309_562 : decode (mB 309) 562 = .ok (.aload_n 0, 1) := by decide +kernel
theorem D309_563 : decode (mB 309) 563 = .ok (.iload 4, 2) := by decide +kernel
theorem D309_565 : decode (mB 309) 565 = .ok (.iconst 1, 1) := by decide +kernel
theorem D309_566 : decode (mB 309) 566 = .ok (.iadd, 1) := by decide +kernel
theorem D309_567 : decode (mB 309) 567 = .ok (.iaload, 1) := by decide +kernel
theorem D309_568 : CS 309 568 94 0 := ⟨.invokevirtual 54, by decide +kernel, by decide +kernel, by decide +kernel, by decide⟩
theorem D309_571 : decode (mB 309) 571 = .ok (.aload_n 2, 1) := by decide +kernel
theorem D309_572 : decode (mB 309) 572 = .ok (.aload_n 0, 1) := by decide +kernel
theorem D309_573 : decode (mB 309) 573 = .ok (.iload 4, 2) := by decide +kernel
theorem D309_575 : decode (mB 309) 575 = .ok (.iconst 1, 1) := by decide +kernel
theorem D309_576 : decode (mB 309) 576 = .ok (.iadd, 1) := by decide +kernel
theorem D309_577 : decode (mB 309) 577 = .ok (.iaload, 1) := by decide +kernel
theorem D309_578 : CS 309 578 253 0 := ⟨.invokevirtual 58, by decide +kernel, by decide +kernel, by decide +kernel, by decide⟩
theorem D309_581 : BR 309 581 (.if_icmp .eq 1237) (1237) 1818 := ⟨by decide +kernel, by decide, by decide⟩
theorem D309_584 : decode (mB 309) 584 = .ok (.iconst 0, 1) := by decide +kernel
theorem D309_585 : decode (mB 309) 585 = .ok (.ireturn, 1) := by decide +kernel
theorem D309_586 : decode (mB 309) 586 = .ok (.aload_n 1, 1) := by decide +kernel
theorem D309_587 : decode (mB 309) 587 = .ok (.aload_n 0, 1) := by decide +kernel
theorem D309_588 : decode (mB 309) 588 = .ok (.iload 4, 2) := by decide +kernel
theorem D309_590 : decode (mB 309) 590 = .ok (.iconst 1, 1) := by decide +kernel
theorem D309_591 : decode (mB 309) 591 = .ok (.iadd, 1) := by decide +kernel
theorem D309_592 : decode (mB 309) 592 = .ok (.iaload, 1) := by decide +kernel
theorem D309_593 : decode (mB 309) 593 = .ok (.aload_n 0, 1) := by decide +kernel
theorem D309_594 : decode (mB 309) 594 = .ok (.iload 4, 2) := by decide +kernel
theorem D309_596 : decode (mB 309) 596 = .ok (.iconst 2, 1) := by decide +kernel
theorem D309_597 : decode (mB 309) 597 = .ok (.iadd, 1) := by decide +kernel
theorem D309_598 : decode (mB 309) 598 = .ok (.iaload, 1) := by decide +kernel
theorem D309_599 : CS 309 599 114 0 := ⟨.invokevirtual 59, by decide +kernel, by decide +kernel, by decide +kernel, by decide⟩
theorem D309_602 : decode (mB 309) 602 = .ok (.aload_n 2, 1) := by decide +kernel
theorem D309_603 : decode (mB 309) 603 = .ok (.aload_n 0, 1) := by decide +kernel
theorem D309_604 : decode (mB 309) 604 = .ok (.iload 4, 2) := by decide +kernel
theorem D309_606 : decode (mB 309) 606 = .ok (.iconst 1, 1) := by decide +kernel
theorem D309_607 : decode (mB 309) 607 = .ok (.iadd, 1) := by decide +kernel
theorem D309_608 : decode (mB 309) 608 = .ok (.iaload, 1) := by decide +kernel
theorem D309_609 : decode (mB 309) 609 = .ok (.aload_n 0, 1) := by decide +kernel
theorem D309_610 : decode (mB 309) 610 = .ok (.iload 4, 2) := by decide +kernel
theorem D309_612 : decode (mB 309) 612 = .ok (.iconst 2, 1) := by decide +kernel
theorem D309_613 : decode (mB 309) 613 = .ok (.iadd, 1) := by decide +kernel
theorem D309_614 : decode (mB 309) 614 = .ok (.iaload, 1) := by decide +kernel
theorem D309_615 : CS 309 615 242 0 := ⟨.invokevirtual 62, by decide +kernel, by decide +kernel, by decide +kernel, by decide⟩
theorem D309_618 : BR 309 618 (.if_icmp .eq 1200) (1200) 1818 := ⟨by decide +kernel, by decide, by decide⟩
theorem D309_621 : decode (mB 309) 621 = .ok (.iconst 0, 1) := by decide +kernel
theorem D309_622 : decode (mB 309) 622 = .ok (.ireturn, 1) := by decide +kernel
theorem D309_623 : decode (mB 309) 623 = .ok (.aload_n 1, 1) := by decide +kernel
theorem D309_624 : decode (mB 309) 624 = .ok (.aload_n 0, 1) := by decide +kernel
theorem D309_625 : decode (mB 309) 625 = .ok (.iload 4, 2) := by decide +kernel
theorem D309_627 : decode (mB 309) 627 = .ok (.iconst 1, 1) := by decide +kernel
theorem D309_628 : decode (mB 309) 628 = .ok (.iadd, 1) := by decide +kernel
theorem D309_629 : decode (mB 309) 629 = .ok (.iaload, 1) := by decide +kernel
theorem D309_630 : decode (mB 309) 630 = .ok (.aload_n 0, 1) := by decide +kernel
theorem D309_631 : decode (mB 309) 631 = .ok (.iload 4, 2) := by decide +kernel
theorem D309_633 : decode (mB 309) 633 = .ok (.iconst 2, 1) := by decide +kernel
theorem D309_634 : decode (mB 309) 634 = .ok (.iadd, 1) := by decide +kernel
theorem D309_635 : decode (mB 309) 635 = .ok (.iaload, 1) := by decide +kernel
theorem D309_636 : decode (mB 309) 636 = .ok (.aload_n 0, 1) := by decide +kernel
theorem D309_637 : decode (mB 309) 637 = .ok (.iload 4, 2) := by decide +kernel
theorem D309_639 : decode (mB 309) 639 = .ok (.iconst 3, 1) := by decide +kernel
theorem D309_640 : decode (mB 309) 640 = .ok (.iadd, 1) := by decide +kernel
theorem D309_641 : decode (mB 309) 641 = .ok (.iaload, 1) := by decide +kernel
theorem D309_642 : CS 309 642 116 0 := ⟨.invokevirtual 63, by decide +kernel, by decide +kernel, by decide +kernel, by decide⟩
theorem D309_645 : decode (mB 309) 645 = .ok (.aload_n 2, 1) := by decide +kernel
theorem D309_646 : decode (mB 309) 646 = .ok (.aload_n 0, 1) := by decide +kernel
theorem D309_647 : decode (mB 309) 647 = .ok (.iload 4, 2) := by decide +kernel
theorem D309_649 : decode (mB 309) 649 = .ok (.iconst 1, 1) := by decide +kernel
theorem D309_650 : decode (mB 309) 650 = .ok (.iadd, 1) := by decide +kernel
theorem D309_651 : decode (mB 309) 651 = .ok (.iaload, 1) := by decide +kernel
theorem D309_652 : decode (mB 309) 652 = .ok (.aload_n 0, 1) := by decide +kernel
theorem D309_653 : decode (mB 309) 653 = .ok (.iload 4, 2) := by decide +kernel
theorem D309_655 : decode (mB 309) 655 = .ok (.iconst 2, 1) := by decide +kernel
theorem D309_656 : decode (mB 309) 656 = .ok (.iadd, 1) := by decide +kernel
theorem D309_657 : decode (mB 309) 657 = .ok (.iaload, 1) := by decide +kernel
theorem D309_658 : decode (mB 309) 658 = .ok (.aload_n 0, 1) := by decide +kernel
theorem D309_659 : decode (mB 309) 659 = .ok (.iload 4, 2) := by decide +kernel
theorem D309_661 : decode (mB 309) 661 = .ok (.iconst 3, 1) := by decide +kernel
theorem D309_662 : decode (mB 309) 662 = .ok (.iadd, 1) := by decide +kernel
theorem D309_663 : decode (mB 309) 663 = .ok (.iaload, 1) := by decide +kernel
theorem D309_664 : CS 309 664 246 0 := ⟨.invokevirtual 67, by decide +kernel, by decide +kernel, by decide +kernel, by decide⟩
theorem D309_667 : BR 309 667 (.if_icmp .eq 1151) (1151) 1818 := ⟨by decide +kernel, by decide, by decide⟩
theorem D309_670 : decode (mB 309) 670 = .ok (.iconst 0, 1) := by decide +kernel
theorem D309_671 : decode (mB 309) 671 = .ok (.ireturn, 1) := by decide +kernel
theorem D309_672 : decode (mB 309) 672 = .ok (.aload_n 1, 1) := by decide +kernel
theorem D309_673 : decode (mB 309) 673 = .ok (.aload_n 0, 1) := by decide +kernel
theorem D309_674 : decode (mB 309) 674 = .ok (.iload 4, 2) := by decide +kernel
theorem D309_676 : decode (mB 309) 676 = .ok (.iconst 1, 1) := by decide +kernel
theorem D309_677 : decode (mB 309) 677 = .ok (.iadd, 1) := by decide +kernel
theorem D309_678 : decode (mB 309) 678 = .ok (.iaload, 1) := by decide +kernel
theorem D309_679 : CS 309 679 118 0 := ⟨.invokevirtual 68, by decide +kernel, by decide +kernel, by decide +kernel, by decide⟩
theorem D309_682 : decode (mB 309) 682 = .ok (.aload_n 2, 1) := by decide +kernel
theorem D309_683 : decode (mB 309) 683 = .ok (.aload_n 0, 1) := by decide +kernel
theorem D309_684 : decode (mB 309) 684 = .ok (.iload 4, 2) := by decide +kernel
theorem D309_686 : decode (mB 309) 686 = .ok (.iconst 1, 1) := by decide +kernel
theorem D309_687 : decode (mB 309) 687 = .ok (.iadd, 1) := by decide +kernel
theorem D309_688 : decode (mB 309) 688 = .ok (.iaload, 1) := by decide +kernel
theorem D309_689 : CS 309 689 258 0 := ⟨.invokevirtual 71, by decide +kernel, by decide +kernel, by decide +kernel, by decide⟩
theorem D309_692 : BR 309 692 (.if_icmp .eq 1126) (1126) 1818 := ⟨by decide +kernel, by decide, by decide⟩
theorem D309_695 : decode (mB 309) 695 = .ok (.iconst 0, 1) := by decide +kernel
theorem D309_696 : decode (mB 309) 696 = .ok (.ireturn, 1) := by decide +kernel
theorem D309_697 : decode (mB 309) 697 = .ok (.aload_n 1, 1) := by decide +kernel
theorem D309_698 : decode (mB 309) 698 = .ok (.aload_n 0, 1) := by decide +kernel
theorem D309_699 : decode (mB 309) 699 = .ok (.iload 4, 2) := by decide +kernel
theorem D309_701 : decode (mB 309) 701 = .ok (.iconst 1, 1) := by decide +kernel
theorem D309_702 : decode (mB 309) 702 = .ok (.iadd, 1) := by decide +kernel
theorem D309_703 : decode (mB 309) 703 = .ok (.iaload, 1) := by decide +kernel
theorem D309_704 : CS 309 704 121 0 := ⟨.invokevirtual 72, by decide +kernel, by decide +kernel, by decide +kernel, by decide⟩
theorem D309_707 : decode (mB 309) 707 = .ok (.aload_n 2, 1) := by decide +kernel
