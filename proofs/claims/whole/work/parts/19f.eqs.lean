/-! ===== equations: LiarsCockLaw (printed by wip/whole/gen17.py) ===== -/
theorem D309_0 : NW 309 0 9 12 := ⟨8, by decide +kernel, by decide +kernel, by decide, by decide +kernel, by decide +kernel⟩
theorem D309_3 : decode (mB 309) 3 = .ok (.dup, 1) := by decide +kernel
theorem D309_4 : CS 309 4 0 1 := ⟨.invokespecial 15, by decide +kernel, by decide +kernel, by decide +kernel, by decide⟩
theorem D309_7 : decode (mB 309) 7 = .ok (.astore_n 1, 1) := by decide +kernel
theorem D309_8 : NW 309 8 10 69 := ⟨16, by decide +kernel, by decide +kernel, by decide, by decide +kernel, by decide +kernel⟩
theorem D309_11 : decode (mB 309) 11 = .ok (.dup, 1) := by decide +kernel
theorem D309_12 : CS 309 12 204 1 := ⟨.invokespecial 18, by decide +kernel, by decide +kernel, by decide +kernel, by decide⟩
theorem D309_15 : decode (mB 309) 15 = .ok (.astore_n 2, 1) := by decide +kernel
theorem D309_16 : decode (mB 309) 16 = .ok (.iconst 1, 1) := by decide +kernel
theorem D309_17 : decode (mB 309) 17 = .ok (.newarray .long, 2) := by decide +kernel
theorem D309_19 : decode (mB 309) 19 = .ok (.astore_n 3, 1) := by decide +kernel
theorem D309_20 : decode (mB 309) 20 = .ok (.iconst 0, 1) := by decide +kernel
theorem D309_21 : decode (mB 309) 21 = .ok (.istore 4, 2) := by decide +kernel
theorem D309_23 : decode (mB 309) 23 = .ok (.iload 4, 2) := by decide +kernel
theorem D309_25 : decode (mB 309) 25 = .ok (.aload_n 0, 1) := by decide +kernel
theorem D309_26 : decode (mB 309) 26 = .ok (.arraylength, 1) := by decide +kernel
theorem D309_27 : decode (mB 309) 27 = .ok (.bipush 7, 2) := by decide +kernel
theorem D309_29 : decode (mB 309) 29 = .ok (.isub, 1) := by decide +kernel
theorem D309_30 : BR 309 30 (.if_icmp .gt 1794) (1794) 1824 := ⟨by decide +kernel, by decide, by decide⟩
theorem D309_1824 : decode (mB 309) 1824 = .ok (.iconst 1, 1) := by decide +kernel
theorem D309_1825 : decode (mB 309) 1825 = .ok (.ireturn, 1) := by decide +kernel
theorem D309_33 : decode (mB 309) 33 = .ok (.aload_n 0, 1) := by decide +kernel
theorem D309_34 : decode (mB 309) 34 = .ok (.iload 4, 2) := by decide +kernel
theorem D309_36 : decode (mB 309) 36 = .ok (.iaload, 1) := by decide +kernel
theorem D309_37 : decode (mB 309) 37 = .ok (.bipush 63, 2) := by decide +kernel
theorem D309_39 : decode (mB 309) 39 = .ok (.iand, 1) := by decide +kernel
theorem D309_40 : TB 309 40 1818 (0) (36) [204, 351, 364, 401, 438, 463, 524, 561, 586, 623, 672, 697, 722, 747, 785, 822, 847, 908, 969, 1058, 1071, 1108, 1169, 1206, 1243, 1280, 1383, 1420, 1457, 1482, 1519, 1556, 1605, 1642, 1703, 1740, 1793] := ⟨#[164, 311, 324, 361, 398, 423, 484, 521, 546, 583, 632, 657, 682, 707, 745, 782, 807, 868, 929, 1018, 1031, 1068, 1129, 1166, 1203, 1240, 1343, 1380, 1417, 1442, 1479, 1516, 1565, 1602, 1663, 1700, 1753], 1778, 164, by decide +kernel, by decide +kernel⟩
theorem D309_204 : decode (mB 309) 204 = .ok (.aload_n 1, 1) := by decide +kernel
theorem D309_205 : decode (mB 309) 205 = .ok (.aload_n 0, 1) := by decide +kernel
theorem D309_206 : decode (mB 309) 206 = .ok (.iload 4, 2) := by decide +kernel
theorem D309_208 : decode (mB 309) 208 = .ok (.iconst 1, 1) := by decide +kernel
theorem D309_209 : decode (mB 309) 209 = .ok (.iadd, 1) := by decide +kernel
theorem D309_210 : decode (mB 309) 210 = .ok (.iaload, 1) := by decide +kernel
theorem D309_211 : decode (mB 309) 211 = .ok (.i2l, 1) := by decide +kernel
theorem D309_212 : decode (mB 309) 212 = .ok (.bipush 32, 2) := by decide +kernel
theorem D309_214 : decode (mB 309) 214 = .ok (.lshl, 1) := by decide +kernel
theorem D309_215 : decode (mB 309) 215 = .ok (.aload_n 0, 1) := by decide +kernel
theorem D309_216 : decode (mB 309) 216 = .ok (.iload 4, 2) := by decide +kernel
theorem D309_218 : decode (mB 309) 218 = .ok (.iconst 2, 1) := by decide +kernel
theorem D309_219 : decode (mB 309) 219 = .ok (.iadd, 1) := by decide +kernel
theorem D309_220 : decode (mB 309) 220 = .ok (.iaload, 1) := by decide +kernel
theorem D309_221 : decode (mB 309) 221 = .ok (.i2l, 1) := by decide +kernel
theorem R309_222 : lRes (mC 309) 19 = some (4294967295) := by decide +kernel
theorem D309_222 : decode (mB 309) 222 = .ok (.ldc2_w 19, 3) := by decide +kernel
theorem D309_225 : decode (mB 309) 225 = .ok (.land, 1) := by decide +kernel
theorem D309_226 : decode (mB 309) 226 = .ok (.lor, 1) := by decide +kernel
theorem D309_227 : decode (mB 309) 227 = .ok (.aload_n 0, 1) := by decide +kernel
theorem D309_228 : decode (mB 309) 228 = .ok (.iload 4, 2) := by decide +kernel
theorem D309_230 : decode (mB 309) 230 = .ok (.iconst 3, 1) := by decide +kernel
theorem D309_231 : decode (mB 309) 231 = .ok (.iadd, 1) := by decide +kernel
theorem D309_232 : decode (mB 309) 232 = .ok (.iaload, 1) := by decide +kernel
theorem D309_233 : decode (mB 309) 233 = .ok (.i2l, 1) := by decide +kernel
theorem D309_234 : decode (mB 309) 234 = .ok (.bipush 32, 2) := by decide +kernel
theorem D309_236 : decode (mB 309) 236 = .ok (.lshl, 1) := by decide +kernel
theorem D309_237 : decode (mB 309) 237 = .ok (.aload_n 0, 1) := by decide +kernel
theorem D309_238 : decode (mB 309) 238 = .ok (.iload 4, 2) := by decide +kernel
theorem D309_240 : decode (mB 309) 240 = .ok (.iconst 4, 1) := by decide +kernel
theorem D309_241 : decode (mB 309) 241 = .ok (.iadd, 1) := by decide +kernel
theorem D309_242 : decode (mB 309) 242 = .ok (.iaload, 1) := by decide +kernel
theorem D309_243 : decode (mB 309) 243 = .ok (.i2l, 1) := by decide +kernel
theorem R309_244 : lRes (mC 309) 19 = some (4294967295) := by decide +kernel
theorem D309_244 : decode (mB 309) 244 = .ok (.ldc2_w 19, 3) := by decide +kernel
theorem D309_247 : decode (mB 309) 247 = .ok (.land, 1) := by decide +kernel
theorem D309_248 : decode (mB 309) 248 = .ok (.lor, 1) := by decide +kernel
theorem D309_249 : decode (mB 309) 249 = .ok (.aload_n 0, 1) := by decide +kernel
theorem D309_250 : decode (mB 309) 250 = .ok (.iload 4, 2) := by decide +kernel
theorem D309_252 : decode (mB 309) 252 = .ok (.iconst 5, 1) := by decide +kernel
theorem D309_253 : decode (mB 309) 253 = .ok (.iadd, 1) := by decide +kernel
theorem D309_254 : decode (mB 309) 254 = .ok (.iaload, 1) := by decide +kernel
theorem D309_255 : decode (mB 309) 255 = .ok (.i2l, 1) := by decide +kernel
theorem D309_256 : decode (mB 309) 256 = .ok (.bipush 32, 2) := by decide +kernel
theorem D309_258 : decode (mB 309) 258 = .ok (.lshl, 1) := by decide +kernel
theorem D309_259 : decode (mB 309) 259 = .ok (.aload_n 0, 1) := by decide +kernel
theorem D309_260 : decode (mB 309) 260 = .ok (.iload 4, 2) := by decide +kernel
theorem D309_262 : decode (mB 309) 262 = .ok (.bipush 6, 2) := by decide +kernel
theorem D309_264 : decode (mB 309) 264 = .ok (.iadd, 1) := by decide +kernel
theorem D309_265 : decode (mB 309) 265 = .ok (.iaload, 1) := by decide +kernel
theorem D309_266 : decode (mB 309) 266 = .ok (.i2l, 1) := by decide +kernel
theorem R309_267 : lRes (mC 309) 19 = some (4294967295) := by decide +kernel
theorem D309_267 : decode (mB 309) 267 = .ok (.ldc2_w 19, 3) := by decide +kernel
theorem D309_270 : decode (mB 309) 270 = .ok (.land, 1) := by decide +kernel
theorem D309_271 : decode (mB 309) 271 = .ok (.lor, 1) := by decide +kernel
theorem D309_272 : CS 309 272 10 0 := ⟨.invokevirtual 21, by decide +kernel, by decide +kernel, by decide +kernel, by decide⟩
theorem D309_275 : decode (mB 309) 275 = .ok (.aload_n 2, 1) := by decide +kernel
theorem D309_276 : decode (mB 309) 276 = .ok (.aload_n 0, 1) := by decide +kernel
theorem D309_277 : decode (mB 309) 277 = .ok (.iload 4, 2) := by decide +kernel
theorem D309_279 : decode (mB 309) 279 = .ok (.iconst 1, 1) := by decide +kernel
theorem D309_280 : decode (mB 309) 280 = .ok (.iadd, 1) := by decide +kernel
theorem D309_281 : decode (mB 309) 281 = .ok (.iaload, 1) := by decide +kernel
theorem D309_282 : decode (mB 309) 282 = .ok (.i2l, 1) := by decide +kernel
theorem D309_283 : decode (mB 309) 283 = .ok (.bipush 32, 2) := by decide +kernel
theorem D309_285 : decode (mB 309) 285 = .ok (.lshl, 1) := by decide +kernel
theorem D309_286 : decode (mB 309) 286 = .ok (.aload_n 0, 1) := by decide +kernel
theorem D309_287 : decode (mB 309) 287 = .ok (.iload 4, 2) := by decide +kernel
theorem D309_289 : decode (mB 309) 289 = .ok (.iconst 2, 1) := by decide +kernel
theorem D309_290 : decode (mB 309) 290 = .ok (.iadd, 1) := by decide +kernel
theorem D309_291 : decode (mB 309) 291 = .ok (.iaload, 1) := by decide +kernel
theorem D309_292 : decode (mB 309) 292 = .ok (.i2l, 1) := by decide +kernel
theorem R309_293 : lRes (mC 309) 19 = some (4294967295) := by decide +kernel
theorem D309_293 : decode (mB 309) 293 = .ok (.ldc2_w 19, 3) := by decide +kernel
theorem D309_296 : decode (mB 309) 296 = .ok (.land, 1) := by decide +kernel
theorem D309_297 : decode (mB 309) 297 = .ok (.lor, 1) := by decide +kernel
theorem D309_298 : decode (mB 309) 298 = .ok (.aload_n 0, 1) := by decide +kernel
theorem D309_299 : decode (mB 309) 299 = .ok (.iload 4, 2) := by decide +kernel
theorem D309_301 : decode (mB 309) 301 = .ok (.iconst 3, 1) := by decide +kernel
theorem D309_302 : decode (mB 309) 302 = .ok (.iadd, 1) := by decide +kernel
theorem D309_303 : decode (mB 309) 303 = .ok (.iaload, 1) := by decide +kernel
theorem D309_304 : decode (mB 309) 304 = .ok (.i2l, 1) := by decide +kernel
theorem D309_305 : decode (mB 309) 305 = .ok (.bipush 32, 2) := by decide +kernel
theorem D309_307 : decode (mB 309) 307 = .ok (.lshl, 1) := by decide +kernel
theorem D309_308 : decode (mB 309) 308 = .ok (.aload_n 0, 1) := by decide +kernel
theorem D309_309 : decode (mB 309) 309 = .ok (.iload 4, 2) := by decide +kernel
theorem D309_311 : decode (mB 309) 311 = .ok (.iconst 4, 1) := by decide +kernel
theorem D309_312 : decode (mB 309) 312 = .ok (.iadd, 1) := by decide +kernel
theorem D309_313 : decode (mB 309) 313 = .ok (.iaload, 1) := by decide +kernel
theorem D309_314 : decode (mB 309) 314 = .ok (.i2l, 1) := by decide +kernel
theorem R309_315 : lRes (mC 309) 19 = some (4294967295) := by decide +kernel
theorem D309_315 : decode (mB 309) 315 = .ok (.ldc2_w 19, 3) := by decide +kernel
theorem D309_318 : decode (mB 309) 318 = .ok (.land, 1) := by decide +kernel
theorem D309_319 : decode (mB 309) 319 = .ok (.lor, 1) := by decide +kernel
theorem D309_320 : decode (mB 309) 320 = .ok (.aload_n 0, 1) := by decide +kernel
theorem D309_321 : decode (mB 309) 321 = .ok (.iload 4, 2) := by decide +kernel
theorem D309_323 : decode (mB 309) 323 = .ok (.iconst 5, 1) := by decide +kernel
theorem D309_324 : decode (mB 309) 324 = .ok (.iadd, 1) := by decide +kernel
theorem D309_325 : decode (mB 309) 325 = .ok (.iaload, 1) := by decide +kernel
theorem D309_326 : decode (mB 309) 326 = .ok (.i2l, 1) := by decide +kernel
theorem D309_327 : decode (mB 309) 327 = .ok (.bipush 32, 2) := by decide +kernel
theorem D309_329 : decode (mB 309) 329 = .ok (.lshl, 1) := by decide +kernel
theorem D309_330 : decode (mB 309) 330 = .ok (.aload_n 0, 1) := by decide +kernel
theorem D309_331 : decode (mB 309) 331 = .ok (.iload 4, 2) := by decide +kernel
theorem D309_333 : decode (mB 309) 333 = .ok (.bipush 6, 2) := by decide +kernel
theorem D309_335 : decode (mB 309) 335 = .ok (.iadd, 1) := by decide +kernel
theorem D309_336 : decode (mB 309) 336 = .ok (.iaload, 1) := by decide +kernel
theorem D309_337 : decode (mB 309) 337 = .ok (.i2l, 1) := by decide +kernel
theorem R309_338 : lRes (mC 309) 19 = some (4294967295) := by decide +kernel
theorem D309_338 : decode (mB 309) 338 = .ok (.ldc2_w 19, 3) := by decide +kernel
theorem D309_341 : decode (mB 309) 341 = .ok (.land, 1) := by decide +kernel
theorem D309_342 : decode (mB 309) 342 = .ok (.lor, 1) := by decide +kernel
theorem D309_343 : CS 309 343 207 0 := ⟨.invokevirtual 25, by decide +kernel, by decide +kernel, by decide +kernel, by decide⟩
theorem D309_346 : BR 309 346 (.if_icmp .eq 1472) (1472) 1818 := ⟨by decide +kernel, by decide, by decide⟩
theorem D309_349 : decode (mB 309) 349 = .ok (.iconst 0, 1) := by decide +kernel
theorem D309_350 : decode (mB 309) 350 = .ok (.ireturn, 1) := by decide +kernel
theorem D309_351 : decode (mB 309) 351 = .ok (.aload_n 1, 1) := by decide +kernel
theorem D309_352 : CS 309 352 13 0 := ⟨.invokevirtual 26, by decide +kernel, by decide +kernel, by decide +kernel, by decide⟩
theorem D309_355 : decode (mB 309) 355 = .ok (.aload_n 2, 1) := by decide +kernel
theorem D309_356 : CS 309 356 208 0 := ⟨.invokevirtual 30, by decide +kernel, by decide +kernel, by decide +kernel, by decide⟩
theorem D309_359 : BR 309 359 (.if_icmp .eq 1459) (1459) 1818 := ⟨by decide +kernel, by decide, by decide⟩
theorem D309_362 : decode (mB 309) 362 = .ok (.iconst 0, 1) := by decide +kernel
theorem D309_363 : decode (mB 309) 363 = .ok (.ireturn, 1) := by decide +kernel
theorem D309_364 : decode (mB 309) 364 = .ok (.aload_n 1, 1) := by decide +kernel
theorem D309_365 : decode (mB 309) 365 = .ok (.aload_n 0, 1) := by decide +kernel
theorem D309_366 : decode (mB 309) 366 = .ok (.iload 4, 2) := by decide +kernel
theorem D309_368 : decode (mB 309) 368 = .ok (.iconst 1, 1) := by decide +kernel
theorem D309_369 : decode (mB 309) 369 = .ok (.iadd, 1) := by decide +kernel
theorem D309_370 : decode (mB 309) 370 = .ok (.iaload, 1) := by decide +kernel
theorem D309_371 : decode (mB 309) 371 = .ok (.aload_n 0, 1) := by decide +kernel
theorem D309_372 : decode (mB 309) 372 = .ok (.iload 4, 2) := by decide +kernel
theorem D309_374 : decode (mB 309) 374 = .ok (.iconst 2, 1) := by decide +kernel
theorem D309_375 : decode (mB 309) 375 = .ok (.iadd, 1) := by decide +kernel
theorem D309_376 : decode (mB 309) 376 = .ok (.iaload, 1) := by decide +kernel
theorem D309_377 : CS 309 377 66 0 := ⟨.invokevirtual 31, by decide +kernel, by decide +kernel, by decide +kernel, by decide⟩
theorem D309_380 : decode (mB 309) 380 = .ok (.aload_n 2, 1) := by decide +kernel
theorem D309_381 : decode (mB 309) 381 = .ok (.aload_n 0, 1) := by decide +kernel
theorem D309_382 : decode (mB 309) 382 = .ok (.iload 4, 2) := by decide +kernel
theorem D309_384 : decode (mB 309) 384 = .ok (.iconst 1, 1) := by decide +kernel
theorem D309_385 : decode (mB 309) 385 = .ok (.iadd, 1) := by decide +kernel
theorem D309_386 : decode (mB 309) 386 = .ok (.iaload, 1) := by decide +kernel
theorem D309_387 : decode (mB 309) 387 = .ok (.aload_n 0, 1) := by decide +kernel
theorem D309_388 : decode (mB 309) 388 = .ok (.iload 4, 2) := by decide +kernel
theorem D309_390 : decode (mB 309) 390 = .ok (.iconst 2, 1) := by decide +kernel
theorem D309_391 : decode (mB 309) 391 = .ok (.iadd, 1) := by decide +kernel
theorem D309_392 : decode (mB 309) 392 = .ok (.iaload, 1) := by decide +kernel
theorem D309_393 : CS 309 393 235 0 := ⟨.invokevirtual 35, by decide +kernel, by decide +kernel, by decide +kernel, by decide⟩
theorem D309_396 : BR 309 396 (.if_icmp .eq 1422) (1422) 1818 := ⟨by decide +kernel, by decide, by decide⟩
theorem D309_399 : decode (mB 309) 399 = .ok (.iconst 0, 1) := by decide +kernel
theorem D309_400 : decode (mB 309) 400 = .ok (.ireturn, 1) := by decide +kernel
theorem D309_401 : decode (mB 309) 401 = .ok (.aload_n 1, 1) := by decide +kernel
theorem D309_402 : decode (mB 309) 402 = .ok (.aload_n 0, 1) := by decide +kernel
theorem D309_403 : decode (mB 309) 403 = .ok (.iload 4, 2) := by decide +kernel
theorem D309_405 : decode (mB 309) 405 = .ok (.iconst 1, 1) := by decide +kernel
theorem D309_406 : decode (mB 309) 406 = .ok (.iadd, 1) := by decide +kernel
theorem D309_407 : decode (mB 309) 407 = .ok (.iaload, 1) := by decide +kernel
theorem D309_408 : decode (mB 309) 408 = .ok (.aload_n 0, 1) := by decide +kernel
theorem D309_409 : decode (mB 309) 409 = .ok (.iload 4, 2) := by decide +kernel
theorem D309_411 : decode (mB 309) 411 = .ok (.iconst 2, 1) := by decide +kernel
theorem D309_412 : decode (mB 309) 412 = .ok (.iadd, 1) := by decide +kernel
theorem D309_413 : decode (mB 309) 413 = .ok (.iaload, 1) := by decide +kernel
theorem D309_414 : CS 309 414 85 0 := ⟨.invokevirtual 36, by decide +kernel, by decide +kernel, by decide +kernel, by decide⟩
theorem D309_417 : decode (mB 309) 417 = .ok (.aload_n 2, 1) := by decide +kernel
theorem D309_418 : decode (mB 309) 418 = .ok (.aload_n 0, 1) := by decide +kernel
theorem D309_419 : decode (mB 309) 419 = .ok (.iload 4, 2) := by decide +kernel
theorem D309_421 : decode (mB 309) 421 = .ok (.iconst 1, 1) := by decide +kernel
theorem D309_422 : decode (mB 309) 422 = .ok (.iadd, 1) := by decide +kernel
theorem D309_423 : decode (mB 309) 423 = .ok (.iaload, 1) := by decide +kernel
theorem D309_424 : decode (mB 309) 424 = .ok (.aload_n 0, 1) := by decide +kernel
theorem D309_425 : decode (mB 309) 425 = .ok (.iload 4, 2) := by decide +kernel
theorem D309_427 : decode (mB 309) 427 = .ok (.iconst 2, 1) := by decide +kernel
theorem D309_428 : decode (mB 309) 428 = .ok (.iadd, 1) := by decide +kernel
theorem D309_429 : decode (mB 309) 429 = .ok (.iaload, 1) := by decide +kernel
theorem D309_430 : CS 309 430 239 0 := ⟨.invokevirtual 39, by decide +kernel, by decide +kernel, by decide +kernel, by decide⟩
theorem D309_433 : BR 309 433 (.if_icmp .eq 1385) (1385) 1818 := ⟨by decide +kernel, by decide, by decide⟩
theorem D309_436 : decode (mB 309) 436 = .ok (.iconst 0, 1) := by decide +kernel
theorem D309_437 : decode (mB 309) 437 = .ok (.ireturn, 1) := by decide +kernel
theorem D309_438 : decode (mB 309) 438 = .ok (.aload_n 1, 1) := by decide +kernel
theorem D309_439 : decode (mB 309) 439 = .ok (.aload_n 0, 1) := by decide +kernel
theorem D309_440 : decode (mB 309) 440 = .ok (.iload 4, 2) := by decide +kernel
theorem D309_442 : decode (mB 309) 442 = .ok (.iconst 1, 1) := by decide +kernel
theorem D309_443 : decode (mB 309) 443 = .ok (.iadd, 1) := by decide +kernel
theorem D309_444 : decode (mB 309) 444 = .ok (.iaload, 1) := by decide +kernel
theorem D309_445 : CS 309 445 86 0 := ⟨.invokevirtual 40, by decide +kernel, by decide +kernel, by decide +kernel, by decide⟩
theorem D309_448 : decode (mB 309) 448 = .ok (.aload_n 2, 1) := by decide +kernel
theorem D309_449 : decode (mB 309) 449 = .ok (.aload_n 0, 1) := by decide +kernel
theorem D309_450 : decode (mB 309) 450 = .ok (.iload 4, 2) := by decide +kernel
theorem D309_452 : decode (mB 309) 452 = .ok (.iconst 1, 1) := by decide +kernel
theorem D309_453 : decode (mB 309) 453 = .ok (.iadd, 1) := by decide +kernel
theorem D309_454 : decode (mB 309) 454 = .ok (.iaload, 1) := by decide +kernel
theorem D309_455 : CS 309 455 240 0 := ⟨.invokevirtual 44, by decide +kernel, by decide +kernel, by decide +kernel, by decide⟩
theorem D309_458 : BR 309 458 (.if_icmp .eq 1360) (1360) 1818 := ⟨by decide +kernel, by decide, by decide⟩
theorem D309_461 : decode (mB 309) 461 = .ok (.iconst 0, 1) := by decide +kernel
theorem D309_462 : decode (mB 309) 462 = .ok (.ireturn, 1) := by decide +kernel
theorem D309_463 : decode (mB 309) 463 = .ok (.aload_n 1, 1) := by decide +kernel
theorem D309_464 : decode (mB 309) 464 = .ok (.aload_n 0, 1) := by decide +kernel
theorem D309_465 : decode (mB 309) 465 = .ok (.iload 4, 2) := by decide +kernel
theorem D309_467 : decode (mB 309) 467 = .ok (.iconst 1, 1) := by decide +kernel
theorem D309_468 : decode (mB 309) 468 = .ok (.iadd, 1) := by decide +kernel
theorem D309_469 : decode (mB 309) 469 = .ok (.iaload, 1) := by decide +kernel
theorem D309_470 : decode (mB 309) 470 = .ok (.aload_n 0, 1) := by decide +kernel
theorem D309_471 : decode (mB 309) 471 = .ok (.iload 4, 2) := by decide +kernel
theorem D309_473 : decode (mB 309) 473 = .ok (.iconst 2, 1) := by decide +kernel
theorem D309_474 : decode (mB 309) 474 = .ok (.iadd, 1) := by decide +kernel
theorem D309_475 : decode (mB 309) 475 = .ok (.iaload, 1) := by decide +kernel
theorem D309_476 : decode (mB 309) 476 = .ok (.aload_n 0, 1) := by decide +kernel
theorem D309_477 : decode (mB 309) 477 = .ok (.iload 4, 2) := by decide +kernel
theorem D309_479 : decode (mB 309) 479 = .ok (.iconst 3, 1) := by decide +kernel
theorem D309_480 : decode (mB 309) 480 = .ok (.iadd, 1) := by decide +kernel
theorem D309_481 : decode (mB 309) 481 = .ok (.iaload, 1) := by decide +kernel
theorem D309_482 : decode (mB 309) 482 = .ok (.aload_n 0, 1) := by decide +kernel
theorem D309_483 : decode (mB 309) 483 = .ok (.iload 4, 2) := by decide +kernel
theorem D309_485 : decode (mB 309) 485 = .ok (.iconst 4, 1) := by decide +kernel
theorem D309_486 : decode (mB 309) 486 = .ok (.iadd, 1) := by decide +kernel
theorem D309_487 : decode (mB 309) 487 = .ok (.iaload, 1) := by decide +kernel
theorem D309_488 : CS 309 488 88 0 := ⟨.invokevirtual 45, by decide +kernel, by decide +kernel, by decide +kernel, by decide⟩
theorem D309_491 : decode (mB 309) 491 = .ok (.aload_n 2, 1) := by decide +kernel
theorem D309_492 : decode (mB 309) 492 = .ok (.aload_n 0, 1) := by decide +kernel
theorem D309_493 : decode (mB 309) 493 = .ok (.iload 4, 2) := by decide +kernel
theorem D309_495 : decode (mB 309) 495 = .ok (.iconst 1, 1) := by decide +kernel
theorem D309_496 : decode (mB 309) 496 = .ok (.iadd, 1) := by decide +kernel
theorem D309_497 : decode (mB 309) 497 = .ok (.iaload, 1) := by decide +kernel
theorem D309_498 : decode (mB 309) 498 = .ok (.aload_n 0, 1) := by decide +kernel
theorem D309_499 : decode (mB 309) 499 = .ok (.iload 4, 2) := by decide +kernel
theorem D309_501 : decode (mB 309) 501 = .ok (.iconst 2, 1) := by decide +kernel
theorem D309_502 : decode (mB 309) 502 = .ok (.iadd, 1) := by decide +kernel
theorem D309_503 : decode (mB 309) 503 = .ok (.iaload, 1) := by decide +kernel
theorem D309_504 : decode (mB 309) 504 = .ok (.aload_n 0, 1) := by decide +kernel
theorem D309_505 : decode (mB 309) 505 = .ok (.iload 4, 2) := by decide +kernel
theorem D309_507 : decode (mB 309) 507 = .ok (.iconst 3, 1) := by decide +kernel
theorem D309_508 : decode (mB 309) 508 = .ok (.iadd, 1) := by decide +kernel
theorem D309_509 : decode (mB 309) 509 = .ok (.iaload, 1) := by decide +kernel
theorem D309_510 : decode (mB 309) 510 = .ok (.aload_n 0, 1) := by decide +kernel
theorem D309_511 : decode (mB 309) 511 = .ok (.iload 4, 2) := by decide +kernel
theorem D309_513 : decode (mB 309) 513 = .ok (.iconst 4, 1) := by decide +kernel
theorem D309_514 : decode (mB 309) 514 = .ok (.iadd, 1) := by decide +kernel
theorem D309_515 : decode (mB 309) 515 = .ok (.iaload, 1) := by decide +kernel
theorem D309_516 : CS 309 516 251 0 := ⟨.invokevirtual 49, by decide +kernel, by decide +kernel, by decide +kernel, by decide⟩
theorem D309_519 : BR 309 519 (.if_icmp .eq 1299) (1299) 1818 := ⟨by decide +kernel, by decide, by decide⟩
theorem D309_522 : decode (mB 309) 522 = .ok (.iconst 0, 1) := by decide +kernel
theorem D309_523 : decode (mB 309) 523 = .ok (.ireturn, 1) := by decide +kernel
theorem D309_524 : decode (mB 309) 524 = .ok (.aload_n 1, 1) := by decide +kernel
theorem D309_525 : decode (mB 309) 525 = .ok (.aload_n 0, 1) := by decide +kernel
theorem D309_526 : decode (mB 309) 526 = .ok (.iload 4, 2) := by decide +kernel
theorem D309_528 : decode (mB 309) 528 = .ok (.iconst 1, 1) := by decide +kernel
theorem D309_529 : decode (mB 309) 529 = .ok (.iadd, 1) := by decide +kernel
theorem D309_530 : decode (mB 309) 530 = .ok (.iaload, 1) := by decide +kernel
theorem D309_531 : decode (mB 309) 531 = .ok (.aload_n 0, 1) := by decide +kernel
theorem D309_532 : decode (mB 309) 532 = .ok (.iload 4, 2) := by decide +kernel
theorem D309_534 : decode (mB 309) 534 = .ok (.iconst 2, 1) := by decide +kernel
theorem D309_535 : decode (mB 309) 535 = .ok (.iadd, 1) := by decide +kernel
theorem D309_536 : decode (mB 309) 536 = .ok (.iaload, 1) := by decide +kernel
theorem D309_537 : CS 309 537 93 0 := ⟨.invokevirtual 50, by decide +kernel, by decide +kernel, by decide +kernel, by decide⟩
theorem D309_540 : decode (mB 309) 540 = .ok (.aload_n 2, 1) := by decide +kernel
theorem D309_541 : decode (mB 309) 541 = .ok (.aload_n 0, 1) := by decide +kernel
theorem D309_542 : decode (mB 309) 542 = .ok (.iload 4, 2) := by decide +kernel
theorem D309_544 : decode (mB 309) 544 = .ok (.iconst 1, 1) := by decide +kernel
theorem D309_545 : decode (mB 309) 545 = .ok (.iadd, 1) := by decide +kernel
theorem D309_546 : decode (mB 309) 546 = .ok (.iaload, 1) := by decide +kernel
theorem D309_547 : decode (mB 309) 547 = .ok (.aload_n 0, 1) := by decide +kernel
theorem D309_548 : decode (mB 309) 548 = .ok (.iload 4, 2) := by decide +kernel
theorem D309_550 : decode (mB 309) 550 = .ok (.iconst 2, 1) := by decide +kernel
theorem D309_551 : decode (mB 309) 551 = .ok (.iadd, 1) := by decide +kernel
theorem D309_552 : decode (mB 309) 552 = .ok (.iaload, 1) := by decide +kernel
theorem D309_553 : CS 309 553 283 0 := ⟨.invokevirtual 53, by decide +kernel, by decide +kernel, by decide +kernel, by decide⟩
theorem D309_556 : BR 309 556 (.if_icmp .eq 1262) (1262) 1818 := ⟨by decide +kernel, by decide, by decide⟩
theorem D309_559 : decode (mB 309) 559 = .ok (.iconst 0, 1) := by decide +kernel
theorem D309_560 : decode (mB 309) 560 = .ok (.ireturn, 1) := by decide +kernel
theorem D309_561 : decode (mB 309) 561 = .ok (.aload_n 1, 1) := by decide +kernel
theorem D309_562 : decode (mB 309) 562 = .ok (.aload_n 0, 1) := by decide +kernel
theorem D309_563 : decode (mB 309) 563 = .ok (.iload 4, 2) := by decide +kernel
theorem D309_565 : decode (mB 309) 565 = .ok (.iconst 1, 1) := by decide +kernel
theorem D309_566 : decode (mB 309) 566 = .ok (.iadd, 1) := by decide +kernel
theorem D309_567 : decode (mB 309) 567 = .ok (.iaload, 1) := by decide +kernel
theorem D309_568 : CS 309 568 94 0 := ⟨.invokevirtual 54, by decide +kernel, by decide +kernel, by decide +kernel, by decide⟩
theorem D309_571 : decode (mB 309) 571 = .ok (.aload_n 2, 1) := by decide +kernel
theorem D309_572 : decode (mB 309) 572 = .ok (.aload_n 0, 1) := by decide +kernel
theorem D309_573 : decode (mB 309) 573 = .ok (.iload 4, 2) := by decide +kernel
theorem D309_575 : decode (mB 309) 575 = .ok (.iconst 1, 1) := by decide +kernel
theorem D309_576 : decode (mB 309) 576 = .ok (.iadd, 1) := by decide +kernel
theorem D309_577 : decode (mB 309) 577 = .ok (.iaload, 1) := by decide +kernel
theorem D309_578 : CS 309 578 253 0 := ⟨.invokevirtual 58, by decide +kernel, by decide +kernel, by decide +kernel, by decide⟩
theorem D309_581 : BR 309 581 (.if_icmp .eq 1237) (1237) 1818 := ⟨by decide +kernel, by decide, by decide⟩
theorem D309_584 : decode (mB 309) 584 = .ok (.iconst 0, 1) := by decide +kernel
theorem D309_585 : decode (mB 309) 585 = .ok (.ireturn, 1) := by decide +kernel
theorem D309_586 : decode (mB 309) 586 = .ok (.aload_n 1, 1) := by decide +kernel
theorem D309_587 : decode (mB 309) 587 = .ok (.aload_n 0, 1) := by decide +kernel
theorem D309_588 : decode (mB 309) 588 = .ok (.iload 4, 2) := by decide +kernel
theorem D309_590 : decode (mB 309) 590 = .ok (.iconst 1, 1) := by decide +kernel
theorem D309_591 : decode (mB 309) 591 = .ok (.iadd, 1) := by decide +kernel
theorem D309_592 : decode (mB 309) 592 = .ok (.iaload, 1) := by decide +kernel
theorem D309_593 : decode (mB 309) 593 = .ok (.aload_n 0, 1) := by decide +kernel
theorem D309_594 : decode (mB 309) 594 = .ok (.iload 4, 2) := by decide +kernel
theorem D309_596 : decode (mB 309) 596 = .ok (.iconst 2, 1) := by decide +kernel
theorem D309_597 : decode (mB 309) 597 = .ok (.iadd, 1) := by decide +kernel
theorem D309_598 : decode (mB 309) 598 = .ok (.iaload, 1) := by decide +kernel
theorem D309_599 : CS 309 599 114 0 := ⟨.invokevirtual 59, by decide +kernel, by decide +kernel, by decide +kernel, by decide⟩
theorem D309_602 : decode (mB 309) 602 = .ok (.aload_n 2, 1) := by decide +kernel
theorem D309_603 : decode (mB 309) 603 = .ok (.aload_n 0, 1) := by decide +kernel
theorem D309_604 : decode (mB 309) 604 = .ok (.iload 4, 2) := by decide +kernel
theorem D309_606 : decode (mB 309) 606 = .ok (.iconst 1, 1) := by decide +kernel
theorem D309_607 : decode (mB 309) 607 = .ok (.iadd, 1) := by decide +kernel
theorem D309_608 : decode (mB 309) 608 = .ok (.iaload, 1) := by decide +kernel
theorem D309_609 : decode (mB 309) 609 = .ok (.aload_n 0, 1) := by decide +kernel
theorem D309_610 : decode (mB 309) 610 = .ok (.iload 4, 2) := by decide +kernel
theorem D309_612 : decode (mB 309) 612 = .ok (.iconst 2, 1) := by decide +kernel
theorem D309_613 : decode (mB 309) 613 = .ok (.iadd, 1) := by decide +kernel
theorem D309_614 : decode (mB 309) 614 = .ok (.iaload, 1) := by decide +kernel
theorem D309_615 : CS 309 615 242 0 := ⟨.invokevirtual 62, by decide +kernel, by decide +kernel, by decide +kernel, by decide⟩
theorem D309_618 : BR 309 618 (.if_icmp .eq 1200) (1200) 1818 := ⟨by decide +kernel, by decide, by decide⟩
theorem D309_621 : decode (mB 309) 621 = .ok (.iconst 0, 1) := by decide +kernel
theorem D309_622 : decode (mB 309) 622 = .ok (.ireturn, 1) := by decide +kernel
theorem D309_623 : decode (mB 309) 623 = .ok (.aload_n 1, 1) := by decide +kernel
theorem D309_624 : decode (mB 309) 624 = .ok (.aload_n 0, 1) := by decide +kernel
theorem D309_625 : decode (mB 309) 625 = .ok (.iload 4, 2) := by decide +kernel
theorem D309_627 : decode (mB 309) 627 = .ok (.iconst 1, 1) := by decide +kernel
theorem D309_628 : decode (mB 309) 628 = .ok (.iadd, 1) := by decide +kernel
theorem D309_629 : decode (mB 309) 629 = .ok (.iaload, 1) := by decide +kernel
theorem D309_630 : decode (mB 309) 630 = .ok (.aload_n 0, 1) := by decide +kernel
theorem D309_631 : decode (mB 309) 631 = .ok (.iload 4, 2) := by decide +kernel
theorem D309_633 : decode (mB 309) 633 = .ok (.iconst 2, 1) := by decide +kernel
theorem D309_634 : decode (mB 309) 634 = .ok (.iadd, 1) := by decide +kernel
theorem D309_635 : decode (mB 309) 635 = .ok (.iaload, 1) := by decide +kernel
theorem D309_636 : decode (mB 309) 636 = .ok (.aload_n 0, 1) := by decide +kernel
theorem D309_637 : decode (mB 309) 637 = .ok (.iload 4, 2) := by decide +kernel
theorem D309_639 : decode (mB 309) 639 = .ok (.iconst 3, 1) := by decide +kernel
theorem D309_640 : decode (mB 309) 640 = .ok (.iadd, 1) := by decide +kernel
theorem D309_641 : decode (mB 309) 641 = .ok (.iaload, 1) := by decide +kernel
theorem D309_642 : CS 309 642 116 0 := ⟨.invokevirtual 63, by decide +kernel, by decide +kernel, by decide +kernel, by decide⟩
theorem D309_645 : decode (mB 309) 645 = .ok (.aload_n 2, 1) := by decide +kernel
theorem D309_646 : decode (mB 309) 646 = .ok (.aload_n 0, 1) := by decide +kernel
theorem D309_647 : decode (mB 309) 647 = .ok (.iload 4, 2) := by decide +kernel
theorem D309_649 : decode (mB 309) 649 = .ok (.iconst 1, 1) := by decide +kernel
theorem D309_650 : decode (mB 309) 650 = .ok (.iadd, 1) := by decide +kernel
theorem D309_651 : decode (mB 309) 651 = .ok (.iaload, 1) := by decide +kernel
theorem D309_652 : decode (mB 309) 652 = .ok (.aload_n 0, 1) := by decide +kernel
theorem D309_653 : decode (mB 309) 653 = .ok (.iload 4, 2) := by decide +kernel
theorem D309_655 : decode (mB 309) 655 = .ok (.iconst 2, 1) := by decide +kernel
theorem D309_656 : decode (mB 309) 656 = .ok (.iadd, 1) := by decide +kernel
theorem D309_657 : decode (mB 309) 657 = .ok (.iaload, 1) := by decide +kernel
theorem D309_658 : decode (mB 309) 658 = .ok (.aload_n 0, 1) := by decide +kernel
theorem D309_659 : decode (mB 309) 659 = .ok (.iload 4, 2) := by decide +kernel
theorem D309_661 : decode (mB 309) 661 = .ok (.iconst 3, 1) := by decide +kernel
theorem D309_662 : decode (mB 309) 662 = .ok (.iadd, 1) := by decide +kernel
theorem D309_663 : decode (mB 309) 663 = .ok (.iaload, 1) := by decide +kernel
theorem D309_664 : CS 309 664 246 0 := ⟨.invokevirtual 67, by decide +kernel, by decide +kernel, by decide +kernel, by decide⟩
theorem D309_667 : BR 309 667 (.if_icmp .eq 1151) (1151) 1818 := ⟨by decide +kernel, by decide, by decide⟩
theorem D309_670 : decode (mB 309) 670 = .ok (.iconst 0, 1) := by decide +kernel
theorem D309_671 : decode (mB 309) 671 = .ok (.ireturn, 1) := by decide +kernel
theorem D309_672 : decode (mB 309) 672 = .ok (.aload_n 1, 1) := by decide +kernel
theorem D309_673 : decode (mB 309) 673 = .ok (.aload_n 0, 1) := by decide +kernel
theorem D309_674 : decode (mB 309) 674 = .ok (.iload 4, 2) := by decide +kernel
theorem D309_676 : decode (mB 309) 676 = .ok (.iconst 1, 1) := by decide +kernel
theorem D309_677 : decode (mB 309) 677 = .ok (.iadd, 1) := by decide +kernel
theorem D309_678 : decode (mB 309) 678 = .ok (.iaload, 1) := by decide +kernel
theorem D309_679 : CS 309 679 118 0 := ⟨.invokevirtual 68, by decide +kernel, by decide +kernel, by decide +kernel, by decide⟩
theorem D309_682 : decode (mB 309) 682 = .ok (.aload_n 2, 1) := by decide +kernel
theorem D309_683 : decode (mB 309) 683 = .ok (.aload_n 0, 1) := by decide +kernel
theorem D309_684 : decode (mB 309) 684 = .ok (.iload 4, 2) := by decide +kernel
theorem D309_686 : decode (mB 309) 686 = .ok (.iconst 1, 1) := by decide +kernel
theorem D309_687 : decode (mB 309) 687 = .ok (.iadd, 1) := by decide +kernel
theorem D309_688 : decode (mB 309) 688 = .ok (.iaload, 1) := by decide +kernel
theorem D309_689 : CS 309 689 258 0 := ⟨.invokevirtual 71, by decide +kernel, by decide +kernel, by decide +kernel, by decide⟩
theorem D309_692 : BR 309 692 (.if_icmp .eq 1126) (1126) 1818 := ⟨by decide +kernel, by decide, by decide⟩
theorem D309_695 : decode (mB 309) 695 = .ok (.iconst 0, 1) := by decide +kernel
theorem D309_696 : decode (mB 309) 696 = .ok (.ireturn, 1) := by decide +kernel
theorem D309_697 : decode (mB 309) 697 = .ok (.aload_n 1, 1) := by decide +kernel
theorem D309_698 : decode (mB 309) 698 = .ok (.aload_n 0, 1) := by decide +kernel
theorem D309_699 : decode (mB 309) 699 = .ok (.iload 4, 2) := by decide +kernel
theorem D309_701 : decode (mB 309) 701 = .ok (.iconst 1, 1) := by decide +kernel
theorem D309_702 : decode (mB 309) 702 = .ok (.iadd, 1) := by decide +kernel
theorem D309_703 : decode (mB 309) 703 = .ok (.iaload, 1) := by decide +kernel
theorem D309_704 : CS 309 704 121 0 := ⟨.invokevirtual 72, by decide +kernel, by decide +kernel, by decide +kernel, by decide⟩
theorem D309_707 : decode (mB 309) 707 = .ok (.aload_n 2, 1) := by decide +kernel
theorem D309_708 : decode (mB 309) 708 = .ok (.aload_n 0, 1) := by decide +kernel
theorem D309_709 : decode (mB 309) 709 = .ok (.iload 4, 2) := by decide +kernel
theorem D309_711 : decode (mB 309) 711 = .ok (.iconst 1, 1) := by decide +kernel
theorem D309_712 : decode (mB 309) 712 = .ok (.iadd, 1) := by decide +kernel
theorem D309_713 : decode (mB 309) 713 = .ok (.iaload, 1) := by decide +kernel
theorem D309_714 : CS 309 714 262 0 := ⟨.invokevirtual 75, by decide +kernel, by decide +kernel, by decide +kernel, by decide⟩
theorem D309_717 : BR 309 717 (.if_icmp .eq 1101) (1101) 1818 := ⟨by decide +kernel, by decide, by decide⟩
theorem D309_720 : decode (mB 309) 720 = .ok (.iconst 0, 1) := by decide +kernel
theorem D309_721 : decode (mB 309) 721 = .ok (.ireturn, 1) := by decide +kernel
theorem D309_722 : decode (mB 309) 722 = .ok (.aload_n 1, 1) := by decide +kernel
theorem D309_723 : decode (mB 309) 723 = .ok (.aload_n 0, 1) := by decide +kernel
theorem D309_724 : decode (mB 309) 724 = .ok (.iload 4, 2) := by decide +kernel
theorem D309_726 : decode (mB 309) 726 = .ok (.iconst 1, 1) := by decide +kernel
theorem D309_727 : decode (mB 309) 727 = .ok (.iadd, 1) := by decide +kernel
theorem D309_728 : decode (mB 309) 728 = .ok (.iaload, 1) := by decide +kernel
theorem D309_729 : CS 309 729 123 0 := ⟨.invokevirtual 76, by decide +kernel, by decide +kernel, by decide +kernel, by decide⟩
theorem D309_732 : decode (mB 309) 732 = .ok (.aload_n 2, 1) := by decide +kernel
theorem D309_733 : decode (mB 309) 733 = .ok (.aload_n 0, 1) := by decide +kernel
theorem D309_734 : decode (mB 309) 734 = .ok (.iload 4, 2) := by decide +kernel
theorem D309_736 : decode (mB 309) 736 = .ok (.iconst 1, 1) := by decide +kernel
theorem D309_737 : decode (mB 309) 737 = .ok (.iadd, 1) := by decide +kernel
theorem D309_738 : decode (mB 309) 738 = .ok (.iaload, 1) := by decide +kernel
theorem D309_739 : CS 309 739 264 0 := ⟨.invokevirtual 79, by decide +kernel, by decide +kernel, by decide +kernel, by decide⟩
theorem D309_742 : BR 309 742 (.if_icmp .eq 1076) (1076) 1818 := ⟨by decide +kernel, by decide, by decide⟩
theorem D309_745 : decode (mB 309) 745 = .ok (.iconst 0, 1) := by decide +kernel
theorem D309_746 : decode (mB 309) 746 = .ok (.ireturn, 1) := by decide +kernel
theorem D309_747 : decode (mB 309) 747 = .ok (.aload_n 1, 1) := by decide +kernel
theorem D309_748 : decode (mB 309) 748 = .ok (.aload_n 0, 1) := by decide +kernel
theorem D309_749 : decode (mB 309) 749 = .ok (.iload 4, 2) := by decide +kernel
theorem D309_751 : decode (mB 309) 751 = .ok (.iconst 1, 1) := by decide +kernel
theorem D309_752 : decode (mB 309) 752 = .ok (.iadd, 1) := by decide +kernel
theorem D309_753 : decode (mB 309) 753 = .ok (.iaload, 1) := by decide +kernel
theorem D309_754 : decode (mB 309) 754 = .ok (.aload_n 0, 1) := by decide +kernel
theorem D309_755 : decode (mB 309) 755 = .ok (.iload 4, 2) := by decide +kernel
theorem D309_757 : decode (mB 309) 757 = .ok (.iconst 2, 1) := by decide +kernel
theorem D309_758 : decode (mB 309) 758 = .ok (.iadd, 1) := by decide +kernel
theorem D309_759 : decode (mB 309) 759 = .ok (.iaload, 1) := by decide +kernel
theorem D309_760 : CS 309 760 124 0 := ⟨.invokevirtual 80, by decide +kernel, by decide +kernel, by decide +kernel, by decide⟩
theorem D309_763 : decode (mB 309) 763 = .ok (.aload_n 2, 1) := by decide +kernel
theorem D309_764 : decode (mB 309) 764 = .ok (.aload_n 0, 1) := by decide +kernel
theorem D309_765 : decode (mB 309) 765 = .ok (.iload 4, 2) := by decide +kernel
theorem D309_767 : decode (mB 309) 767 = .ok (.iconst 1, 1) := by decide +kernel
theorem D309_768 : decode (mB 309) 768 = .ok (.iadd, 1) := by decide +kernel
theorem D309_769 : decode (mB 309) 769 = .ok (.iaload, 1) := by decide +kernel
theorem D309_770 : decode (mB 309) 770 = .ok (.aload_n 0, 1) := by decide +kernel
theorem D309_771 : decode (mB 309) 771 = .ok (.iload 4, 2) := by decide +kernel
theorem D309_773 : decode (mB 309) 773 = .ok (.iconst 2, 1) := by decide +kernel
theorem D309_774 : decode (mB 309) 774 = .ok (.iadd, 1) := by decide +kernel
theorem D309_775 : decode (mB 309) 775 = .ok (.iaload, 1) := by decide +kernel
theorem D309_776 : CS 309 776 265 0 := ⟨.invokevirtual 84, by decide +kernel, by decide +kernel, by decide +kernel, by decide⟩
theorem D309_779 : decode (mB 309) 779 = .ok (.lcmp, 1) := by decide +kernel
theorem D309_780 : BR 309 780 (.ifCond .eq 1038) (1038) 1818 := ⟨by decide +kernel, by decide, by decide⟩
theorem D309_783 : decode (mB 309) 783 = .ok (.iconst 0, 1) := by decide +kernel
theorem D309_784 : decode (mB 309) 784 = .ok (.ireturn, 1) := by decide +kernel
theorem D309_785 : decode (mB 309) 785 = .ok (.aload_n 1, 1) := by decide +kernel
theorem D309_786 : decode (mB 309) 786 = .ok (.aload_n 0, 1) := by decide +kernel
theorem D309_787 : decode (mB 309) 787 = .ok (.iload 4, 2) := by decide +kernel
theorem D309_789 : decode (mB 309) 789 = .ok (.iconst 1, 1) := by decide +kernel
theorem D309_790 : decode (mB 309) 790 = .ok (.iadd, 1) := by decide +kernel
theorem D309_791 : decode (mB 309) 791 = .ok (.iaload, 1) := by decide +kernel
theorem D309_792 : decode (mB 309) 792 = .ok (.aload_n 0, 1) := by decide +kernel
theorem D309_793 : decode (mB 309) 793 = .ok (.iload 4, 2) := by decide +kernel
theorem D309_795 : decode (mB 309) 795 = .ok (.iconst 2, 1) := by decide +kernel
theorem D309_796 : decode (mB 309) 796 = .ok (.iadd, 1) := by decide +kernel
theorem D309_797 : decode (mB 309) 797 = .ok (.iaload, 1) := by decide +kernel
theorem D309_798 : CS 309 798 129 0 := ⟨.invokevirtual 85, by decide +kernel, by decide +kernel, by decide +kernel, by decide⟩
theorem D309_801 : decode (mB 309) 801 = .ok (.aload_n 2, 1) := by decide +kernel
theorem D309_802 : decode (mB 309) 802 = .ok (.aload_n 0, 1) := by decide +kernel
theorem D309_803 : decode (mB 309) 803 = .ok (.iload 4, 2) := by decide +kernel
theorem D309_805 : decode (mB 309) 805 = .ok (.iconst 1, 1) := by decide +kernel
theorem D309_806 : decode (mB 309) 806 = .ok (.iadd, 1) := by decide +kernel
theorem D309_807 : decode (mB 309) 807 = .ok (.iaload, 1) := by decide +kernel
theorem D309_808 : decode (mB 309) 808 = .ok (.aload_n 0, 1) := by decide +kernel
theorem D309_809 : decode (mB 309) 809 = .ok (.iload 4, 2) := by decide +kernel
theorem D309_811 : decode (mB 309) 811 = .ok (.iconst 2, 1) := by decide +kernel
theorem D309_812 : decode (mB 309) 812 = .ok (.iadd, 1) := by decide +kernel
theorem D309_813 : decode (mB 309) 813 = .ok (.iaload, 1) := by decide +kernel
theorem D309_814 : CS 309 814 269 0 := ⟨.invokevirtual 88, by decide +kernel, by decide +kernel, by decide +kernel, by decide⟩
theorem D309_817 : BR 309 817 (.if_icmp .eq 1001) (1001) 1818 := ⟨by decide +kernel, by decide, by decide⟩
theorem D309_820 : decode (mB 309) 820 = .ok (.iconst 0, 1) := by decide +kernel
theorem D309_821 : decode (mB 309) 821 = .ok (.ireturn, 1) := by decide +kernel
theorem D309_822 : decode (mB 309) 822 = .ok (.aload_n 1, 1) := by decide +kernel
theorem D309_823 : decode (mB 309) 823 = .ok (.aload_n 0, 1) := by decide +kernel
theorem D309_824 : decode (mB 309) 824 = .ok (.iload 4, 2) := by decide +kernel
theorem D309_826 : decode (mB 309) 826 = .ok (.iconst 1, 1) := by decide +kernel
theorem D309_827 : decode (mB 309) 827 = .ok (.iadd, 1) := by decide +kernel
theorem D309_828 : decode (mB 309) 828 = .ok (.iaload, 1) := by decide +kernel
theorem D309_829 : CS 309 829 136 0 := ⟨.invokevirtual 89, by decide +kernel, by decide +kernel, by decide +kernel, by decide⟩
theorem D309_832 : decode (mB 309) 832 = .ok (.aload_n 2, 1) := by decide +kernel
theorem D309_833 : decode (mB 309) 833 = .ok (.aload_n 0, 1) := by decide +kernel
theorem D309_834 : decode (mB 309) 834 = .ok (.iload 4, 2) := by decide +kernel
theorem D309_836 : decode (mB 309) 836 = .ok (.iconst 1, 1) := by decide +kernel
theorem D309_837 : decode (mB 309) 837 = .ok (.iadd, 1) := by decide +kernel
theorem D309_838 : decode (mB 309) 838 = .ok (.iaload, 1) := by decide +kernel
theorem D309_839 : CS 309 839 271 0 := ⟨.invokevirtual 92, by decide +kernel, by decide +kernel, by decide +kernel, by decide⟩
theorem D309_842 : BR 309 842 (.if_icmp .eq 976) (976) 1818 := ⟨by decide +kernel, by decide, by decide⟩
theorem D309_845 : decode (mB 309) 845 = .ok (.iconst 0, 1) := by decide +kernel
theorem D309_846 : decode (mB 309) 846 = .ok (.ireturn, 1) := by decide +kernel
theorem D309_847 : decode (mB 309) 847 = .ok (.aload_n 1, 1) := by decide +kernel
theorem D309_848 : decode (mB 309) 848 = .ok (.aload_n 0, 1) := by decide +kernel
theorem D309_849 : decode (mB 309) 849 = .ok (.iload 4, 2) := by decide +kernel
theorem D309_851 : decode (mB 309) 851 = .ok (.iconst 1, 1) := by decide +kernel
theorem D309_852 : decode (mB 309) 852 = .ok (.iadd, 1) := by decide +kernel
theorem D309_853 : decode (mB 309) 853 = .ok (.iaload, 1) := by decide +kernel
theorem D309_854 : decode (mB 309) 854 = .ok (.aload_n 0, 1) := by decide +kernel
theorem D309_855 : decode (mB 309) 855 = .ok (.iload 4, 2) := by decide +kernel
theorem D309_857 : decode (mB 309) 857 = .ok (.iconst 2, 1) := by decide +kernel
theorem D309_858 : decode (mB 309) 858 = .ok (.iadd, 1) := by decide +kernel
theorem D309_859 : decode (mB 309) 859 = .ok (.iaload, 1) := by decide +kernel
theorem D309_860 : decode (mB 309) 860 = .ok (.aload_n 0, 1) := by decide +kernel
theorem D309_861 : decode (mB 309) 861 = .ok (.iload 4, 2) := by decide +kernel
theorem D309_863 : decode (mB 309) 863 = .ok (.iconst 3, 1) := by decide +kernel
theorem D309_864 : decode (mB 309) 864 = .ok (.iadd, 1) := by decide +kernel
theorem D309_865 : decode (mB 309) 865 = .ok (.iaload, 1) := by decide +kernel
theorem D309_866 : decode (mB 309) 866 = .ok (.aload_n 0, 1) := by decide +kernel
theorem D309_867 : decode (mB 309) 867 = .ok (.iload 4, 2) := by decide +kernel
theorem D309_869 : decode (mB 309) 869 = .ok (.iconst 4, 1) := by decide +kernel
theorem D309_870 : decode (mB 309) 870 = .ok (.iadd, 1) := by decide +kernel
theorem D309_871 : decode (mB 309) 871 = .ok (.iaload, 1) := by decide +kernel
theorem D309_872 : CS 309 872 137 0 := ⟨.invokevirtual 93, by decide +kernel, by decide +kernel, by decide +kernel, by decide⟩
theorem D309_875 : decode (mB 309) 875 = .ok (.aload_n 2, 1) := by decide +kernel
theorem D309_876 : decode (mB 309) 876 = .ok (.aload_n 0, 1) := by decide +kernel
theorem D309_877 : decode (mB 309) 877 = .ok (.iload 4, 2) := by decide +kernel
theorem D309_879 : decode (mB 309) 879 = .ok (.iconst 1, 1) := by decide +kernel
theorem D309_880 : decode (mB 309) 880 = .ok (.iadd, 1) := by decide +kernel
theorem D309_881 : decode (mB 309) 881 = .ok (.iaload, 1) := by decide +kernel
theorem D309_882 : decode (mB 309) 882 = .ok (.aload_n 0, 1) := by decide +kernel
theorem D309_883 : decode (mB 309) 883 = .ok (.iload 4, 2) := by decide +kernel
theorem D309_885 : decode (mB 309) 885 = .ok (.iconst 2, 1) := by decide +kernel
theorem D309_886 : decode (mB 309) 886 = .ok (.iadd, 1) := by decide +kernel
theorem D309_887 : decode (mB 309) 887 = .ok (.iaload, 1) := by decide +kernel
theorem D309_888 : decode (mB 309) 888 = .ok (.aload_n 0, 1) := by decide +kernel
theorem D309_889 : decode (mB 309) 889 = .ok (.iload 4, 2) := by decide +kernel
theorem D309_891 : decode (mB 309) 891 = .ok (.iconst 3, 1) := by decide +kernel
theorem D309_892 : decode (mB 309) 892 = .ok (.iadd, 1) := by decide +kernel
theorem D309_893 : decode (mB 309) 893 = .ok (.iaload, 1) := by decide +kernel
theorem D309_894 : decode (mB 309) 894 = .ok (.aload_n 0, 1) := by decide +kernel
theorem D309_895 : decode (mB 309) 895 = .ok (.iload 4, 2) := by decide +kernel
theorem D309_897 : decode (mB 309) 897 = .ok (.iconst 4, 1) := by decide +kernel
theorem D309_898 : decode (mB 309) 898 = .ok (.iadd, 1) := by decide +kernel
theorem D309_899 : decode (mB 309) 899 = .ok (.iaload, 1) := by decide +kernel
theorem D309_900 : CS 309 900 272 0 := ⟨.invokevirtual 96, by decide +kernel, by decide +kernel, by decide +kernel, by decide⟩
theorem D309_903 : BR 309 903 (.if_icmp .eq 915) (915) 1818 := ⟨by decide +kernel, by decide, by decide⟩
theorem D309_906 : decode (mB 309) 906 = .ok (.iconst 0, 1) := by decide +kernel
theorem D309_907 : decode (mB 309) 907 = .ok (.ireturn, 1) := by decide +kernel
theorem D309_908 : decode (mB 309) 908 = .ok (.aload_n 1, 1) := by decide +kernel
theorem D309_909 : decode (mB 309) 909 = .ok (.aload_n 0, 1) := by decide +kernel
theorem D309_910 : decode (mB 309) 910 = .ok (.iload 4, 2) := by decide +kernel
theorem D309_912 : decode (mB 309) 912 = .ok (.iconst 1, 1) := by decide +kernel
theorem D309_913 : decode (mB 309) 913 = .ok (.iadd, 1) := by decide +kernel
theorem D309_914 : decode (mB 309) 914 = .ok (.iaload, 1) := by decide +kernel
theorem D309_915 : decode (mB 309) 915 = .ok (.aload_n 0, 1) := by decide +kernel
theorem D309_916 : decode (mB 309) 916 = .ok (.iload 4, 2) := by decide +kernel
theorem D309_918 : decode (mB 309) 918 = .ok (.iconst 2, 1) := by decide +kernel
theorem D309_919 : decode (mB 309) 919 = .ok (.iadd, 1) := by decide +kernel
theorem D309_920 : decode (mB 309) 920 = .ok (.iaload, 1) := by decide +kernel
theorem D309_921 : decode (mB 309) 921 = .ok (.aload_n 0, 1) := by decide +kernel
theorem D309_922 : decode (mB 309) 922 = .ok (.iload 4, 2) := by decide +kernel
theorem D309_924 : decode (mB 309) 924 = .ok (.iconst 3, 1) := by decide +kernel
theorem D309_925 : decode (mB 309) 925 = .ok (.iadd, 1) := by decide +kernel
theorem D309_926 : decode (mB 309) 926 = .ok (.iaload, 1) := by decide +kernel
theorem D309_927 : decode (mB 309) 927 = .ok (.aload_n 0, 1) := by decide +kernel
theorem D309_928 : decode (mB 309) 928 = .ok (.iload 4, 2) := by decide +kernel
theorem D309_930 : decode (mB 309) 930 = .ok (.iconst 4, 1) := by decide +kernel
theorem D309_931 : decode (mB 309) 931 = .ok (.iadd, 1) := by decide +kernel
theorem D309_932 : decode (mB 309) 932 = .ok (.iaload, 1) := by decide +kernel
theorem D309_933 : CS 309 933 143 0 := ⟨.invokevirtual 97, by decide +kernel, by decide +kernel, by decide +kernel, by decide⟩
theorem D309_936 : decode (mB 309) 936 = .ok (.aload_n 2, 1) := by decide +kernel
theorem D309_937 : decode (mB 309) 937 = .ok (.aload_n 0, 1) := by decide +kernel
theorem D309_938 : decode (mB 309) 938 = .ok (.iload 4, 2) := by decide +kernel
theorem D309_940 : decode (mB 309) 940 = .ok (.iconst 1, 1) := by decide +kernel
theorem D309_941 : decode (mB 309) 941 = .ok (.iadd, 1) := by decide +kernel
theorem D309_942 : decode (mB 309) 942 = .ok (.iaload, 1) := by decide +kernel
theorem D309_943 : decode (mB 309) 943 = .ok (.aload_n 0, 1) := by decide +kernel
theorem D309_944 : decode (mB 309) 944 = .ok (.iload 4, 2) := by decide +kernel
theorem D309_946 : decode (mB 309) 946 = .ok (.iconst 2, 1) := by decide +kernel
theorem D309_947 : decode (mB 309) 947 = .ok (.iadd, 1) := by decide +kernel
theorem D309_948 : decode (mB 309) 948 = .ok (.iaload, 1) := by decide +kernel
theorem D309_949 : decode (mB 309) 949 = .ok (.aload_n 0, 1) := by decide +kernel
theorem D309_950 : decode (mB 309) 950 = .ok (.iload 4, 2) := by decide +kernel
theorem D309_952 : decode (mB 309) 952 = .ok (.iconst 3, 1) := by decide +kernel
theorem D309_953 : decode (mB 309) 953 = .ok (.iadd, 1) := by decide +kernel
theorem D309_954 : decode (mB 309) 954 = .ok (.iaload, 1) := by decide +kernel
theorem D309_955 : decode (mB 309) 955 = .ok (.aload_n 0, 1) := by decide +kernel
theorem D309_956 : decode (mB 309) 956 = .ok (.iload 4, 2) := by decide +kernel
theorem D309_958 : decode (mB 309) 958 = .ok (.iconst 4, 1) := by decide +kernel
theorem D309_959 : decode (mB 309) 959 = .ok (.iadd, 1) := by decide +kernel
theorem D309_960 : decode (mB 309) 960 = .ok (.iaload, 1) := by decide +kernel
theorem D309_961 : CS 309 961 276 0 := ⟨.invokevirtual 100, by decide +kernel, by decide +kernel, by decide +kernel, by decide⟩
theorem D309_964 : BR 309 964 (.if_icmp .eq 854) (854) 1818 := ⟨by decide +kernel, by decide, by decide⟩
theorem D309_967 : decode (mB 309) 967 = .ok (.iconst 0, 1) := by decide +kernel
theorem D309_968 : decode (mB 309) 968 = .ok (.ireturn, 1) := by decide +kernel
theorem D309_969 : decode (mB 309) 969 = .ok (.aload_n 1, 1) := by decide +kernel
theorem D309_970 : decode (mB 309) 970 = .ok (.aload_n 0, 1) := by decide +kernel
theorem D309_971 : decode (mB 309) 971 = .ok (.iload 4, 2) := by decide +kernel
theorem D309_973 : decode (mB 309) 973 = .ok (.iconst 1, 1) := by decide +kernel
theorem D309_974 : decode (mB 309) 974 = .ok (.iadd, 1) := by decide +kernel
theorem D309_975 : decode (mB 309) 975 = .ok (.iaload, 1) := by decide +kernel
theorem D309_976 : decode (mB 309) 976 = .ok (.aload_n 0, 1) := by decide +kernel
theorem D309_977 : decode (mB 309) 977 = .ok (.iload 4, 2) := by decide +kernel
theorem D309_979 : decode (mB 309) 979 = .ok (.iconst 2, 1) := by decide +kernel
theorem D309_980 : decode (mB 309) 980 = .ok (.iadd, 1) := by decide +kernel
theorem D309_981 : decode (mB 309) 981 = .ok (.iaload, 1) := by decide +kernel
theorem D309_982 : decode (mB 309) 982 = .ok (.aload_n 0, 1) := by decide +kernel
theorem D309_983 : decode (mB 309) 983 = .ok (.iload 4, 2) := by decide +kernel
theorem D309_985 : decode (mB 309) 985 = .ok (.iconst 3, 1) := by decide +kernel
theorem D309_986 : decode (mB 309) 986 = .ok (.iadd, 1) := by decide +kernel
theorem D309_987 : decode (mB 309) 987 = .ok (.iaload, 1) := by decide +kernel
theorem D309_988 : BR 309 988 (.ifCond .eq 7) (7) 995 := ⟨by decide +kernel, by decide, by decide⟩
theorem D309_995 : decode (mB 309) 995 = .ok (.iconst 0, 1) := by decide +kernel
theorem D309_991 : decode (mB 309) 991 = .ok (.iconst 1, 1) := by decide +kernel
theorem D309_992 : BR 309 992 (.goto 4) (4) 996 := ⟨by decide +kernel, by decide, by decide⟩
theorem D309_996 : decode (mB 309) 996 = .ok (.aload_n 0, 1) := by decide +kernel
theorem D309_997 : decode (mB 309) 997 = .ok (.iload 4, 2) := by decide +kernel
theorem D309_999 : decode (mB 309) 999 = .ok (.iconst 4, 1) := by decide +kernel
theorem D309_1000 : decode (mB 309) 1000 = .ok (.iadd, 1) := by decide +kernel
theorem D309_1001 : decode (mB 309) 1001 = .ok (.iaload, 1) := by decide +kernel
theorem D309_1002 : decode (mB 309) 1002 = .ok (.aload_n 0, 1) := by decide +kernel
theorem D309_1003 : decode (mB 309) 1003 = .ok (.iload 4, 2) := by decide +kernel
theorem D309_1005 : decode (mB 309) 1005 = .ok (.iconst 5, 1) := by decide +kernel
theorem D309_1006 : decode (mB 309) 1006 = .ok (.iadd, 1) := by decide +kernel
theorem D309_1007 : decode (mB 309) 1007 = .ok (.iaload, 1) := by decide +kernel
theorem D309_1008 : CS 309 1008 144 0 := ⟨.invokevirtual 101, by decide +kernel, by decide +kernel, by decide +kernel, by decide⟩
theorem D309_1011 : decode (mB 309) 1011 = .ok (.aload_n 2, 1) := by decide +kernel
theorem D309_1012 : decode (mB 309) 1012 = .ok (.aload_n 0, 1) := by decide +kernel
theorem D309_1013 : decode (mB 309) 1013 = .ok (.iload 4, 2) := by decide +kernel
theorem D309_1015 : decode (mB 309) 1015 = .ok (.iconst 1, 1) := by decide +kernel
theorem D309_1016 : decode (mB 309) 1016 = .ok (.iadd, 1) := by decide +kernel
theorem D309_1017 : decode (mB 309) 1017 = .ok (.iaload, 1) := by decide +kernel
theorem D309_1018 : decode (mB 309) 1018 = .ok (.aload_n 0, 1) := by decide +kernel
theorem D309_1019 : decode (mB 309) 1019 = .ok (.iload 4, 2) := by decide +kernel
theorem D309_1021 : decode (mB 309) 1021 = .ok (.iconst 2, 1) := by decide +kernel
theorem D309_1022 : decode (mB 309) 1022 = .ok (.iadd, 1) := by decide +kernel
theorem D309_1023 : decode (mB 309) 1023 = .ok (.iaload, 1) := by decide +kernel
theorem D309_1024 : decode (mB 309) 1024 = .ok (.aload_n 0, 1) := by decide +kernel
theorem D309_1025 : decode (mB 309) 1025 = .ok (.iload 4, 2) := by decide +kernel
theorem D309_1027 : decode (mB 309) 1027 = .ok (.iconst 3, 1) := by decide +kernel
theorem D309_1028 : decode (mB 309) 1028 = .ok (.iadd, 1) := by decide +kernel
theorem D309_1029 : decode (mB 309) 1029 = .ok (.iaload, 1) := by decide +kernel
theorem D309_1030 : BR 309 1030 (.ifCond .eq 7) (7) 1037 := ⟨by decide +kernel, by decide, by decide⟩
theorem D309_1037 : decode (mB 309) 1037 = .ok (.iconst 0, 1) := by decide +kernel
theorem D309_1038 : decode (mB 309) 1038 = .ok (.aload_n 0, 1) := by decide +kernel
theorem D309_1039 : decode (mB 309) 1039 = .ok (.iload 4, 2) := by decide +kernel
theorem D309_1041 : decode (mB 309) 1041 = .ok (.iconst 4, 1) := by decide +kernel
theorem D309_1042 : decode (mB 309) 1042 = .ok (.iadd, 1) := by decide +kernel
theorem D309_1043 : decode (mB 309) 1043 = .ok (.iaload, 1) := by decide +kernel
theorem D309_1044 : decode (mB 309) 1044 = .ok (.aload_n 0, 1) := by decide +kernel
theorem D309_1045 : decode (mB 309) 1045 = .ok (.iload 4, 2) := by decide +kernel
theorem D309_1047 : decode (mB 309) 1047 = .ok (.iconst 5, 1) := by decide +kernel
theorem D309_1048 : decode (mB 309) 1048 = .ok (.iadd, 1) := by decide +kernel
theorem D309_1049 : decode (mB 309) 1049 = .ok (.iaload, 1) := by decide +kernel
theorem D309_1050 : CS 309 1050 277 0 := ⟨.invokevirtual 105, by decide +kernel, by decide +kernel, by decide +kernel, by decide⟩
theorem D309_1053 : BR 309 1053 (.if_icmp .eq 765) (765) 1818 := ⟨by decide +kernel, by decide, by decide⟩
theorem D309_1056 : decode (mB 309) 1056 = .ok (.iconst 0, 1) := by decide +kernel
theorem D309_1057 : decode (mB 309) 1057 = .ok (.ireturn, 1) := by decide +kernel
theorem D309_1033 : decode (mB 309) 1033 = .ok (.iconst 1, 1) := by decide +kernel
theorem D309_1034 : BR 309 1034 (.goto 4) (4) 1038 := ⟨by decide +kernel, by decide, by decide⟩
theorem D309_1058 : decode (mB 309) 1058 = .ok (.aload_n 1, 1) := by decide +kernel
theorem D309_1059 : CS 309 1059 160 0 := ⟨.invokevirtual 106, by decide +kernel, by decide +kernel, by decide +kernel, by decide⟩
theorem D309_1062 : decode (mB 309) 1062 = .ok (.aload_n 2, 1) := by decide +kernel
theorem D309_1063 : CS 309 1063 278 0 := ⟨.invokevirtual 109, by decide +kernel, by decide +kernel, by decide +kernel, by decide⟩
theorem D309_1066 : BR 309 1066 (.if_icmp .eq 752) (752) 1818 := ⟨by decide +kernel, by decide, by decide⟩
theorem D309_1069 : decode (mB 309) 1069 = .ok (.iconst 0, 1) := by decide +kernel
theorem D309_1070 : decode (mB 309) 1070 = .ok (.ireturn, 1) := by decide +kernel
theorem D309_1071 : decode (mB 309) 1071 = .ok (.aload_n 1, 1) := by decide +kernel
theorem D309_1072 : decode (mB 309) 1072 = .ok (.aload_n 0, 1) := by decide +kernel
theorem D309_1073 : decode (mB 309) 1073 = .ok (.iload 4, 2) := by decide +kernel
theorem D309_1075 : decode (mB 309) 1075 = .ok (.iconst 1, 1) := by decide +kernel
theorem D309_1076 : decode (mB 309) 1076 = .ok (.iadd, 1) := by decide +kernel
theorem D309_1077 : decode (mB 309) 1077 = .ok (.iaload, 1) := by decide +kernel
theorem D309_1078 : decode (mB 309) 1078 = .ok (.aload_n 0, 1) := by decide +kernel
theorem D309_1079 : decode (mB 309) 1079 = .ok (.iload 4, 2) := by decide +kernel
theorem D309_1081 : decode (mB 309) 1081 = .ok (.iconst 2, 1) := by decide +kernel
theorem D309_1082 : decode (mB 309) 1082 = .ok (.iadd, 1) := by decide +kernel
theorem D309_1083 : decode (mB 309) 1083 = .ok (.iaload, 1) := by decide +kernel
theorem D309_1084 : CS 309 1084 161 0 := ⟨.invokevirtual 110, by decide +kernel, by decide +kernel, by decide +kernel, by decide⟩
theorem D309_1087 : decode (mB 309) 1087 = .ok (.aload_n 2, 1) := by decide +kernel
theorem D309_1088 : decode (mB 309) 1088 = .ok (.aload_n 0, 1) := by decide +kernel
theorem D309_1089 : decode (mB 309) 1089 = .ok (.iload 4, 2) := by decide +kernel
theorem D309_1091 : decode (mB 309) 1091 = .ok (.iconst 1, 1) := by decide +kernel
theorem D309_1092 : decode (mB 309) 1092 = .ok (.iadd, 1) := by decide +kernel
theorem D309_1093 : decode (mB 309) 1093 = .ok (.iaload, 1) := by decide +kernel
theorem D309_1094 : decode (mB 309) 1094 = .ok (.aload_n 0, 1) := by decide +kernel
theorem D309_1095 : decode (mB 309) 1095 = .ok (.iload 4, 2) := by decide +kernel
theorem D309_1097 : decode (mB 309) 1097 = .ok (.iconst 2, 1) := by decide +kernel
theorem D309_1098 : decode (mB 309) 1098 = .ok (.iadd, 1) := by decide +kernel
theorem D309_1099 : decode (mB 309) 1099 = .ok (.iaload, 1) := by decide +kernel
theorem D309_1100 : CS 309 1100 279 0 := ⟨.invokevirtual 113, by decide +kernel, by decide +kernel, by decide +kernel, by decide⟩
theorem D309_1103 : BR 309 1103 (.if_icmp .eq 715) (715) 1818 := ⟨by decide +kernel, by decide, by decide⟩
theorem D309_1106 : decode (mB 309) 1106 = .ok (.iconst 0, 1) := by decide +kernel
theorem D309_1107 : decode (mB 309) 1107 = .ok (.ireturn, 1) := by decide +kernel
theorem D309_1108 : decode (mB 309) 1108 = .ok (.aload_n 1, 1) := by decide +kernel
theorem D309_1109 : decode (mB 309) 1109 = .ok (.aload_n 0, 1) := by decide +kernel
theorem D309_1110 : decode (mB 309) 1110 = .ok (.iload 4, 2) := by decide +kernel
theorem D309_1112 : decode (mB 309) 1112 = .ok (.iconst 1, 1) := by decide +kernel
theorem D309_1113 : decode (mB 309) 1113 = .ok (.iadd, 1) := by decide +kernel
theorem D309_1114 : decode (mB 309) 1114 = .ok (.iaload, 1) := by decide +kernel
theorem D309_1115 : decode (mB 309) 1115 = .ok (.aload_n 0, 1) := by decide +kernel
theorem D309_1116 : decode (mB 309) 1116 = .ok (.iload 4, 2) := by decide +kernel
theorem D309_1118 : decode (mB 309) 1118 = .ok (.iconst 2, 1) := by decide +kernel
theorem D309_1119 : decode (mB 309) 1119 = .ok (.iadd, 1) := by decide +kernel
theorem D309_1120 : decode (mB 309) 1120 = .ok (.iaload, 1) := by decide +kernel
theorem D309_1121 : decode (mB 309) 1121 = .ok (.aload_n 0, 1) := by decide +kernel
theorem D309_1122 : decode (mB 309) 1122 = .ok (.iload 4, 2) := by decide +kernel
theorem D309_1124 : decode (mB 309) 1124 = .ok (.iconst 3, 1) := by decide +kernel
theorem D309_1125 : decode (mB 309) 1125 = .ok (.iadd, 1) := by decide +kernel
theorem D309_1126 : decode (mB 309) 1126 = .ok (.iaload, 1) := by decide +kernel
theorem D309_1127 : decode (mB 309) 1127 = .ok (.aload_n 0, 1) := by decide +kernel
theorem D309_1128 : decode (mB 309) 1128 = .ok (.iload 4, 2) := by decide +kernel
theorem D309_1130 : decode (mB 309) 1130 = .ok (.iconst 4, 1) := by decide +kernel
theorem D309_1131 : decode (mB 309) 1131 = .ok (.iadd, 1) := by decide +kernel
theorem D309_1132 : decode (mB 309) 1132 = .ok (.iaload, 1) := by decide +kernel
theorem D309_1133 : CS 309 1133 167 0 := ⟨.invokevirtual 114, by decide +kernel, by decide +kernel, by decide +kernel, by decide⟩
theorem D309_1136 : decode (mB 309) 1136 = .ok (.aload_n 2, 1) := by decide +kernel
theorem D309_1137 : decode (mB 309) 1137 = .ok (.aload_n 0, 1) := by decide +kernel
theorem D309_1138 : decode (mB 309) 1138 = .ok (.iload 4, 2) := by decide +kernel
theorem D309_1140 : decode (mB 309) 1140 = .ok (.iconst 1, 1) := by decide +kernel
theorem D309_1141 : decode (mB 309) 1141 = .ok (.iadd, 1) := by decide +kernel
theorem D309_1142 : decode (mB 309) 1142 = .ok (.iaload, 1) := by decide +kernel
theorem D309_1143 : decode (mB 309) 1143 = .ok (.aload_n 0, 1) := by decide +kernel
theorem D309_1144 : decode (mB 309) 1144 = .ok (.iload 4, 2) := by decide +kernel
theorem D309_1146 : decode (mB 309) 1146 = .ok (.iconst 2, 1) := by decide +kernel
theorem D309_1147 : decode (mB 309) 1147 = .ok (.iadd, 1) := by decide +kernel
theorem D309_1148 : decode (mB 309) 1148 = .ok (.iaload, 1) := by decide +kernel
theorem D309_1149 : decode (mB 309) 1149 = .ok (.aload_n 0, 1) := by decide +kernel
theorem D309_1150 : decode (mB 309) 1150 = .ok (.iload 4, 2) := by decide +kernel
theorem D309_1152 : decode (mB 309) 1152 = .ok (.iconst 3, 1) := by decide +kernel
theorem D309_1153 : decode (mB 309) 1153 = .ok (.iadd, 1) := by decide +kernel
theorem D309_1154 : decode (mB 309) 1154 = .ok (.iaload, 1) := by decide +kernel
theorem D309_1155 : decode (mB 309) 1155 = .ok (.aload_n 0, 1) := by decide +kernel
theorem D309_1156 : decode (mB 309) 1156 = .ok (.iload 4, 2) := by decide +kernel
theorem D309_1158 : decode (mB 309) 1158 = .ok (.iconst 4, 1) := by decide +kernel
theorem D309_1159 : decode (mB 309) 1159 = .ok (.iadd, 1) := by decide +kernel
theorem D309_1160 : decode (mB 309) 1160 = .ok (.iaload, 1) := by decide +kernel
theorem D309_1161 : CS 309 1161 280 0 := ⟨.invokevirtual 117, by decide +kernel, by decide +kernel, by decide +kernel, by decide⟩
theorem D309_1164 : BR 309 1164 (.if_icmp .eq 654) (654) 1818 := ⟨by decide +kernel, by decide, by decide⟩
theorem D309_1167 : decode (mB 309) 1167 = .ok (.iconst 0, 1) := by decide +kernel
theorem D309_1168 : decode (mB 309) 1168 = .ok (.ireturn, 1) := by decide +kernel
theorem D309_1169 : decode (mB 309) 1169 = .ok (.aload_n 1, 1) := by decide +kernel
theorem D309_1170 : decode (mB 309) 1170 = .ok (.aload_n 0, 1) := by decide +kernel
theorem D309_1171 : decode (mB 309) 1171 = .ok (.iload 4, 2) := by decide +kernel
theorem D309_1173 : decode (mB 309) 1173 = .ok (.iconst 1, 1) := by decide +kernel
theorem D309_1174 : decode (mB 309) 1174 = .ok (.iadd, 1) := by decide +kernel
theorem D309_1175 : decode (mB 309) 1175 = .ok (.iaload, 1) := by decide +kernel
theorem D309_1176 : decode (mB 309) 1176 = .ok (.aload_n 0, 1) := by decide +kernel
theorem D309_1177 : decode (mB 309) 1177 = .ok (.iload 4, 2) := by decide +kernel
theorem D309_1179 : decode (mB 309) 1179 = .ok (.iconst 2, 1) := by decide +kernel
theorem D309_1180 : decode (mB 309) 1180 = .ok (.iadd, 1) := by decide +kernel
theorem D309_1181 : decode (mB 309) 1181 = .ok (.iaload, 1) := by decide +kernel
theorem D309_1182 : CS 309 1182 170 0 := ⟨.invokevirtual 118, by decide +kernel, by decide +kernel, by decide +kernel, by decide⟩
theorem D309_1185 : decode (mB 309) 1185 = .ok (.aload_n 2, 1) := by decide +kernel
theorem D309_1186 : decode (mB 309) 1186 = .ok (.aload_n 0, 1) := by decide +kernel
theorem D309_1187 : decode (mB 309) 1187 = .ok (.iload 4, 2) := by decide +kernel
theorem D309_1189 : decode (mB 309) 1189 = .ok (.iconst 1, 1) := by decide +kernel
theorem D309_1190 : decode (mB 309) 1190 = .ok (.iadd, 1) := by decide +kernel
theorem D309_1191 : decode (mB 309) 1191 = .ok (.iaload, 1) := by decide +kernel
theorem D309_1192 : decode (mB 309) 1192 = .ok (.aload_n 0, 1) := by decide +kernel
theorem D309_1193 : decode (mB 309) 1193 = .ok (.iload 4, 2) := by decide +kernel
theorem D309_1195 : decode (mB 309) 1195 = .ok (.iconst 2, 1) := by decide +kernel
theorem D309_1196 : decode (mB 309) 1196 = .ok (.iadd, 1) := by decide +kernel
theorem D309_1197 : decode (mB 309) 1197 = .ok (.iaload, 1) := by decide +kernel
theorem D309_1198 : CS 309 1198 281 0 := ⟨.invokevirtual 121, by decide +kernel, by decide +kernel, by decide +kernel, by decide⟩
theorem D309_1201 : BR 309 1201 (.if_icmp .eq 617) (617) 1818 := ⟨by decide +kernel, by decide, by decide⟩
theorem D309_1204 : decode (mB 309) 1204 = .ok (.iconst 0, 1) := by decide +kernel
theorem D309_1205 : decode (mB 309) 1205 = .ok (.ireturn, 1) := by decide +kernel
theorem D309_1206 : decode (mB 309) 1206 = .ok (.aload_n 1, 1) := by decide +kernel
theorem D309_1207 : decode (mB 309) 1207 = .ok (.aload_n 0, 1) := by decide +kernel
theorem D309_1208 : decode (mB 309) 1208 = .ok (.iload 4, 2) := by decide +kernel
theorem D309_1210 : decode (mB 309) 1210 = .ok (.iconst 1, 1) := by decide +kernel
theorem D309_1211 : decode (mB 309) 1211 = .ok (.iadd, 1) := by decide +kernel
theorem D309_1212 : decode (mB 309) 1212 = .ok (.iaload, 1) := by decide +kernel
theorem D309_1213 : decode (mB 309) 1213 = .ok (.aload_n 0, 1) := by decide +kernel
theorem D309_1214 : decode (mB 309) 1214 = .ok (.iload 4, 2) := by decide +kernel
theorem D309_1216 : decode (mB 309) 1216 = .ok (.iconst 2, 1) := by decide +kernel
theorem D309_1217 : decode (mB 309) 1217 = .ok (.iadd, 1) := by decide +kernel
theorem D309_1218 : decode (mB 309) 1218 = .ok (.iaload, 1) := by decide +kernel
theorem D309_1219 : CS 309 1219 180 0 := ⟨.invokevirtual 122, by decide +kernel, by decide +kernel, by decide +kernel, by decide⟩
theorem D309_1222 : decode (mB 309) 1222 = .ok (.aload_n 2, 1) := by decide +kernel
theorem D309_1223 : decode (mB 309) 1223 = .ok (.aload_n 0, 1) := by decide +kernel
theorem D309_1224 : decode (mB 309) 1224 = .ok (.iload 4, 2) := by decide +kernel
theorem D309_1226 : decode (mB 309) 1226 = .ok (.iconst 1, 1) := by decide +kernel
theorem D309_1227 : decode (mB 309) 1227 = .ok (.iadd, 1) := by decide +kernel
theorem D309_1228 : decode (mB 309) 1228 = .ok (.iaload, 1) := by decide +kernel
theorem D309_1229 : decode (mB 309) 1229 = .ok (.aload_n 0, 1) := by decide +kernel
theorem D309_1230 : decode (mB 309) 1230 = .ok (.iload 4, 2) := by decide +kernel
theorem D309_1232 : decode (mB 309) 1232 = .ok (.iconst 2, 1) := by decide +kernel
theorem D309_1233 : decode (mB 309) 1233 = .ok (.iadd, 1) := by decide +kernel
theorem D309_1234 : decode (mB 309) 1234 = .ok (.iaload, 1) := by decide +kernel
theorem D309_1235 : CS 309 1235 284 0 := ⟨.invokevirtual 125, by decide +kernel, by decide +kernel, by decide +kernel, by decide⟩
theorem D309_1238 : BR 309 1238 (.if_icmp .eq 580) (580) 1818 := ⟨by decide +kernel, by decide, by decide⟩
theorem D309_1241 : decode (mB 309) 1241 = .ok (.iconst 0, 1) := by decide +kernel
theorem D309_1242 : decode (mB 309) 1242 = .ok (.ireturn, 1) := by decide +kernel
theorem D309_1243 : decode (mB 309) 1243 = .ok (.aload_n 1, 1) := by decide +kernel
theorem D309_1244 : decode (mB 309) 1244 = .ok (.aload_n 0, 1) := by decide +kernel
theorem D309_1245 : decode (mB 309) 1245 = .ok (.iload 4, 2) := by decide +kernel
theorem D309_1247 : decode (mB 309) 1247 = .ok (.iconst 1, 1) := by decide +kernel
theorem D309_1248 : decode (mB 309) 1248 = .ok (.iadd, 1) := by decide +kernel
theorem D309_1249 : decode (mB 309) 1249 = .ok (.iaload, 1) := by decide +kernel
theorem D309_1250 : decode (mB 309) 1250 = .ok (.aload_n 0, 1) := by decide +kernel
theorem D309_1251 : decode (mB 309) 1251 = .ok (.iload 4, 2) := by decide +kernel
theorem D309_1253 : decode (mB 309) 1253 = .ok (.iconst 2, 1) := by decide +kernel
theorem D309_1254 : decode (mB 309) 1254 = .ok (.iadd, 1) := by decide +kernel
theorem D309_1255 : decode (mB 309) 1255 = .ok (.iaload, 1) := by decide +kernel
theorem D309_1256 : CS 309 1256 186 0 := ⟨.invokevirtual 126, by decide +kernel, by decide +kernel, by decide +kernel, by decide⟩
theorem D309_1259 : decode (mB 309) 1259 = .ok (.aload_n 2, 1) := by decide +kernel
theorem D309_1260 : decode (mB 309) 1260 = .ok (.aload_n 0, 1) := by decide +kernel
theorem D309_1261 : decode (mB 309) 1261 = .ok (.iload 4, 2) := by decide +kernel
theorem D309_1263 : decode (mB 309) 1263 = .ok (.iconst 1, 1) := by decide +kernel
theorem D309_1264 : decode (mB 309) 1264 = .ok (.iadd, 1) := by decide +kernel
theorem D309_1265 : decode (mB 309) 1265 = .ok (.iaload, 1) := by decide +kernel
theorem D309_1266 : decode (mB 309) 1266 = .ok (.aload_n 0, 1) := by decide +kernel
theorem D309_1267 : decode (mB 309) 1267 = .ok (.iload 4, 2) := by decide +kernel
theorem D309_1269 : decode (mB 309) 1269 = .ok (.iconst 2, 1) := by decide +kernel
theorem D309_1270 : decode (mB 309) 1270 = .ok (.iadd, 1) := by decide +kernel
theorem D309_1271 : decode (mB 309) 1271 = .ok (.iaload, 1) := by decide +kernel
theorem D309_1272 : CS 309 1272 287 0 := ⟨.invokevirtual 129, by decide +kernel, by decide +kernel, by decide +kernel, by decide⟩
theorem D309_1275 : BR 309 1275 (.if_icmp .eq 543) (543) 1818 := ⟨by decide +kernel, by decide, by decide⟩
theorem D309_1278 : decode (mB 309) 1278 = .ok (.iconst 0, 1) := by decide +kernel
theorem D309_1279 : decode (mB 309) 1279 = .ok (.ireturn, 1) := by decide +kernel
theorem D309_1280 : decode (mB 309) 1280 = .ok (.aload_n 1, 1) := by decide +kernel
theorem D309_1281 : decode (mB 309) 1281 = .ok (.aload_n 0, 1) := by decide +kernel
theorem D309_1282 : decode (mB 309) 1282 = .ok (.iload 4, 2) := by decide +kernel
theorem D309_1284 : decode (mB 309) 1284 = .ok (.iconst 1, 1) := by decide +kernel
theorem D309_1285 : decode (mB 309) 1285 = .ok (.iadd, 1) := by decide +kernel
theorem D309_1286 : decode (mB 309) 1286 = .ok (.iaload, 1) := by decide +kernel
theorem D309_1287 : decode (mB 309) 1287 = .ok (.aload_n 0, 1) := by decide +kernel
theorem D309_1288 : decode (mB 309) 1288 = .ok (.iload 4, 2) := by decide +kernel
theorem D309_1290 : decode (mB 309) 1290 = .ok (.iconst 2, 1) := by decide +kernel
theorem D309_1291 : decode (mB 309) 1291 = .ok (.iadd, 1) := by decide +kernel
theorem D309_1292 : decode (mB 309) 1292 = .ok (.iaload, 1) := by decide +kernel
theorem D309_1293 : decode (mB 309) 1293 = .ok (.aload_n 0, 1) := by decide +kernel
theorem D309_1294 : decode (mB 309) 1294 = .ok (.iload 4, 2) := by decide +kernel
theorem D309_1296 : decode (mB 309) 1296 = .ok (.iconst 3, 1) := by decide +kernel
theorem D309_1297 : decode (mB 309) 1297 = .ok (.iadd, 1) := by decide +kernel
theorem D309_1298 : decode (mB 309) 1298 = .ok (.iaload, 1) := by decide +kernel
theorem D309_1299 : decode (mB 309) 1299 = .ok (.aload_n 0, 1) := by decide +kernel
theorem D309_1300 : decode (mB 309) 1300 = .ok (.iload 4, 2) := by decide +kernel
theorem D309_1302 : decode (mB 309) 1302 = .ok (.iconst 4, 1) := by decide +kernel
theorem D309_1303 : decode (mB 309) 1303 = .ok (.iadd, 1) := by decide +kernel
theorem D309_1304 : decode (mB 309) 1304 = .ok (.iaload, 1) := by decide +kernel
theorem D309_1305 : decode (mB 309) 1305 = .ok (.aload_n 0, 1) := by decide +kernel
theorem D309_1306 : decode (mB 309) 1306 = .ok (.iload 4, 2) := by decide +kernel
theorem D309_1308 : decode (mB 309) 1308 = .ok (.iconst 5, 1) := by decide +kernel
theorem D309_1309 : decode (mB 309) 1309 = .ok (.iadd, 1) := by decide +kernel
theorem D309_1310 : decode (mB 309) 1310 = .ok (.iaload, 1) := by decide +kernel
theorem D309_1311 : decode (mB 309) 1311 = .ok (.aload_n 3, 1) := by decide +kernel
theorem D309_1312 : CS 309 1312 308 2 := ⟨.invokestatic 130, by decide +kernel, by decide +kernel, by decide +kernel, by decide⟩
theorem D309_1315 : decode (mB 309) 1315 = .ok (.istore 5, 2) := by decide +kernel
theorem D309_1317 : decode (mB 309) 1317 = .ok (.aload_n 2, 1) := by decide +kernel
theorem D309_1318 : decode (mB 309) 1318 = .ok (.aload_n 0, 1) := by decide +kernel
theorem D309_1319 : decode (mB 309) 1319 = .ok (.iload 4, 2) := by decide +kernel
theorem D309_1321 : decode (mB 309) 1321 = .ok (.iconst 1, 1) := by decide +kernel
theorem D309_1322 : decode (mB 309) 1322 = .ok (.iadd, 1) := by decide +kernel
theorem D309_1323 : decode (mB 309) 1323 = .ok (.iaload, 1) := by decide +kernel
theorem D309_1324 : decode (mB 309) 1324 = .ok (.aload_n 0, 1) := by decide +kernel
theorem D309_1325 : decode (mB 309) 1325 = .ok (.iload 4, 2) := by decide +kernel
theorem D309_1327 : decode (mB 309) 1327 = .ok (.iconst 2, 1) := by decide +kernel
theorem D309_1328 : decode (mB 309) 1328 = .ok (.iadd, 1) := by decide +kernel
theorem D309_1329 : decode (mB 309) 1329 = .ok (.iaload, 1) := by decide +kernel
theorem D309_1330 : decode (mB 309) 1330 = .ok (.aload_n 0, 1) := by decide +kernel
theorem D309_1331 : decode (mB 309) 1331 = .ok (.iload 4, 2) := by decide +kernel
theorem D309_1333 : decode (mB 309) 1333 = .ok (.iconst 3, 1) := by decide +kernel
theorem D309_1334 : decode (mB 309) 1334 = .ok (.iadd, 1) := by decide +kernel
theorem D309_1335 : decode (mB 309) 1335 = .ok (.iaload, 1) := by decide +kernel
theorem D309_1336 : decode (mB 309) 1336 = .ok (.aload_n 0, 1) := by decide +kernel
theorem D309_1337 : decode (mB 309) 1337 = .ok (.iload 4, 2) := by decide +kernel
theorem D309_1339 : decode (mB 309) 1339 = .ok (.iconst 4, 1) := by decide +kernel
theorem D309_1340 : decode (mB 309) 1340 = .ok (.iadd, 1) := by decide +kernel
theorem D309_1341 : decode (mB 309) 1341 = .ok (.iaload, 1) := by decide +kernel
theorem D309_1342 : decode (mB 309) 1342 = .ok (.aload_n 0, 1) := by decide +kernel
theorem D309_1343 : decode (mB 309) 1343 = .ok (.iload 4, 2) := by decide +kernel
theorem D309_1345 : decode (mB 309) 1345 = .ok (.iconst 5, 1) := by decide +kernel
theorem D309_1346 : decode (mB 309) 1346 = .ok (.iadd, 1) := by decide +kernel
theorem D309_1347 : decode (mB 309) 1347 = .ok (.iaload, 1) := by decide +kernel
theorem D309_1348 : CS 309 1348 288 0 := ⟨.invokevirtual 135, by decide +kernel, by decide +kernel, by decide +kernel, by decide⟩
theorem D309_1351 : decode (mB 309) 1351 = .ok (.lstore 6, 2) := by decide +kernel
theorem D309_1353 : decode (mB 309) 1353 = .ok (.aload_n 2, 1) := by decide +kernel
theorem D309_1354 : CS 309 1354 206 0 := ⟨.invokevirtual 136, by decide +kernel, by decide +kernel, by decide +kernel, by decide⟩
theorem D309_1357 : decode (mB 309) 1357 = .ok (.iload 5, 2) := by decide +kernel
theorem D309_1359 : BR 309 1359 (.if_icmp .eq 5) (5) 1364 := ⟨by decide +kernel, by decide, by decide⟩
theorem D309_1364 : decode (mB 309) 1364 = .ok (.iload 5, 2) := by decide +kernel
theorem D309_1366 : BR 309 1366 (.ifCond .ne 14) (14) 1380 := ⟨by decide +kernel, by decide, by decide⟩
theorem D309_1380 : BR 309 1380 (.goto 438) (438) 1818 := ⟨by decide +kernel, by decide, by decide⟩
theorem D309_1369 : decode (mB 309) 1369 = .ok (.aload_n 3, 1) := by decide +kernel
theorem D309_1370 : decode (mB 309) 1370 = .ok (.iconst 0, 1) := by decide +kernel
theorem D309_1371 : decode (mB 309) 1371 = .ok (.laload, 1) := by decide +kernel
theorem D309_1372 : decode (mB 309) 1372 = .ok (.lload 6, 2) := by decide +kernel
theorem D309_1374 : decode (mB 309) 1374 = .ok (.lcmp, 1) := by decide +kernel
theorem D309_1375 : BR 309 1375 (.ifCond .eq 5) (5) 1380 := ⟨by decide +kernel, by decide, by decide⟩
theorem D309_1378 : decode (mB 309) 1378 = .ok (.iconst 0, 1) := by decide +kernel
theorem D309_1379 : decode (mB 309) 1379 = .ok (.ireturn, 1) := by decide +kernel
theorem D309_1362 : decode (mB 309) 1362 = .ok (.iconst 0, 1) := by decide +kernel
theorem D309_1363 : decode (mB 309) 1363 = .ok (.ireturn, 1) := by decide +kernel
theorem D309_1383 : decode (mB 309) 1383 = .ok (.aload_n 1, 1) := by decide +kernel
theorem D309_1384 : decode (mB 309) 1384 = .ok (.aload_n 0, 1) := by decide +kernel
theorem D309_1385 : decode (mB 309) 1385 = .ok (.iload 4, 2) := by decide +kernel
theorem D309_1387 : decode (mB 309) 1387 = .ok (.iconst 1, 1) := by decide +kernel
theorem D309_1388 : decode (mB 309) 1388 = .ok (.iadd, 1) := by decide +kernel
theorem D309_1389 : decode (mB 309) 1389 = .ok (.iaload, 1) := by decide +kernel
theorem D309_1390 : decode (mB 309) 1390 = .ok (.aload_n 0, 1) := by decide +kernel
theorem D309_1391 : decode (mB 309) 1391 = .ok (.iload 4, 2) := by decide +kernel
theorem D309_1393 : decode (mB 309) 1393 = .ok (.iconst 2, 1) := by decide +kernel
theorem D309_1394 : decode (mB 309) 1394 = .ok (.iadd, 1) := by decide +kernel
theorem D309_1395 : decode (mB 309) 1395 = .ok (.iaload, 1) := by decide +kernel
theorem D309_1396 : CS 309 1396 187 0 := ⟨.invokevirtual 139, by decide +kernel, by decide +kernel, by decide +kernel, by decide⟩
theorem D309_1399 : decode (mB 309) 1399 = .ok (.aload_n 2, 1) := by decide +kernel
theorem D309_1400 : decode (mB 309) 1400 = .ok (.aload_n 0, 1) := by decide +kernel
theorem D309_1401 : decode (mB 309) 1401 = .ok (.iload 4, 2) := by decide +kernel
theorem D309_1403 : decode (mB 309) 1403 = .ok (.iconst 1, 1) := by decide +kernel
theorem D309_1404 : decode (mB 309) 1404 = .ok (.iadd, 1) := by decide +kernel
theorem D309_1405 : decode (mB 309) 1405 = .ok (.iaload, 1) := by decide +kernel
theorem D309_1406 : decode (mB 309) 1406 = .ok (.aload_n 0, 1) := by decide +kernel
theorem D309_1407 : decode (mB 309) 1407 = .ok (.iload 4, 2) := by decide +kernel
theorem D309_1409 : decode (mB 309) 1409 = .ok (.iconst 2, 1) := by decide +kernel
theorem D309_1410 : decode (mB 309) 1410 = .ok (.iadd, 1) := by decide +kernel
theorem D309_1411 : decode (mB 309) 1411 = .ok (.iaload, 1) := by decide +kernel
theorem D309_1412 : CS 309 1412 289 0 := ⟨.invokevirtual 142, by decide +kernel, by decide +kernel, by decide +kernel, by decide⟩
theorem D309_1415 : BR 309 1415 (.if_icmp .eq 403) (403) 1818 := ⟨by decide +kernel, by decide, by decide⟩
theorem D309_1418 : decode (mB 309) 1418 = .ok (.iconst 0, 1) := by decide +kernel
theorem D309_1419 : decode (mB 309) 1419 = .ok (.ireturn, 1) := by decide +kernel
theorem D309_1420 : decode (mB 309) 1420 = .ok (.aload_n 1, 1) := by decide +kernel
theorem D309_1421 : decode (mB 309) 1421 = .ok (.aload_n 0, 1) := by decide +kernel
theorem D309_1422 : decode (mB 309) 1422 = .ok (.iload 4, 2) := by decide +kernel
theorem D309_1424 : decode (mB 309) 1424 = .ok (.iconst 1, 1) := by decide +kernel
theorem D309_1425 : decode (mB 309) 1425 = .ok (.iadd, 1) := by decide +kernel
theorem D309_1426 : decode (mB 309) 1426 = .ok (.iaload, 1) := by decide +kernel
theorem D309_1427 : decode (mB 309) 1427 = .ok (.aload_n 0, 1) := by decide +kernel
theorem D309_1428 : decode (mB 309) 1428 = .ok (.iload 4, 2) := by decide +kernel
theorem D309_1430 : decode (mB 309) 1430 = .ok (.iconst 2, 1) := by decide +kernel
theorem D309_1431 : decode (mB 309) 1431 = .ok (.iadd, 1) := by decide +kernel
theorem D309_1432 : decode (mB 309) 1432 = .ok (.iaload, 1) := by decide +kernel
theorem D309_1433 : CS 309 1433 188 0 := ⟨.invokevirtual 143, by decide +kernel, by decide +kernel, by decide +kernel, by decide⟩
theorem D309_1436 : decode (mB 309) 1436 = .ok (.aload_n 2, 1) := by decide +kernel
theorem D309_1437 : decode (mB 309) 1437 = .ok (.aload_n 0, 1) := by decide +kernel
theorem D309_1438 : decode (mB 309) 1438 = .ok (.iload 4, 2) := by decide +kernel
theorem D309_1440 : decode (mB 309) 1440 = .ok (.iconst 1, 1) := by decide +kernel
theorem D309_1441 : decode (mB 309) 1441 = .ok (.iadd, 1) := by decide +kernel
theorem D309_1442 : decode (mB 309) 1442 = .ok (.iaload, 1) := by decide +kernel
theorem D309_1443 : decode (mB 309) 1443 = .ok (.aload_n 0, 1) := by decide +kernel
theorem D309_1444 : decode (mB 309) 1444 = .ok (.iload 4, 2) := by decide +kernel
theorem D309_1446 : decode (mB 309) 1446 = .ok (.iconst 2, 1) := by decide +kernel
theorem D309_1447 : decode (mB 309) 1447 = .ok (.iadd, 1) := by decide +kernel
theorem D309_1448 : decode (mB 309) 1448 = .ok (.iaload, 1) := by decide +kernel
theorem D309_1449 : CS 309 1449 290 0 := ⟨.invokevirtual 146, by decide +kernel, by decide +kernel, by decide +kernel, by decide⟩
theorem D309_1452 : BR 309 1452 (.if_icmp .eq 366) (366) 1818 := ⟨by decide +kernel, by decide, by decide⟩
theorem D309_1455 : decode (mB 309) 1455 = .ok (.iconst 0, 1) := by decide +kernel
theorem D309_1456 : decode (mB 309) 1456 = .ok (.ireturn, 1) := by decide +kernel
theorem D309_1457 : decode (mB 309) 1457 = .ok (.aload_n 1, 1) := by decide +kernel
theorem D309_1458 : decode (mB 309) 1458 = .ok (.aload_n 0, 1) := by decide +kernel
theorem D309_1459 : decode (mB 309) 1459 = .ok (.iload 4, 2) := by decide +kernel
theorem D309_1461 : decode (mB 309) 1461 = .ok (.iconst 1, 1) := by decide +kernel
theorem D309_1462 : decode (mB 309) 1462 = .ok (.iadd, 1) := by decide +kernel
theorem D309_1463 : decode (mB 309) 1463 = .ok (.iaload, 1) := by decide +kernel
theorem D309_1464 : CS 309 1464 191 0 := ⟨.invokevirtual 147, by decide +kernel, by decide +kernel, by decide +kernel, by decide⟩
theorem D309_1467 : decode (mB 309) 1467 = .ok (.aload_n 2, 1) := by decide +kernel
theorem D309_1468 : decode (mB 309) 1468 = .ok (.aload_n 0, 1) := by decide +kernel
theorem D309_1469 : decode (mB 309) 1469 = .ok (.iload 4, 2) := by decide +kernel
theorem D309_1471 : decode (mB 309) 1471 = .ok (.iconst 1, 1) := by decide +kernel
theorem D309_1472 : decode (mB 309) 1472 = .ok (.iadd, 1) := by decide +kernel
theorem D309_1473 : decode (mB 309) 1473 = .ok (.iaload, 1) := by decide +kernel
theorem D309_1474 : CS 309 1474 291 0 := ⟨.invokevirtual 150, by decide +kernel, by decide +kernel, by decide +kernel, by decide⟩
theorem D309_1477 : BR 309 1477 (.if_icmp .eq 341) (341) 1818 := ⟨by decide +kernel, by decide, by decide⟩
theorem D309_1480 : decode (mB 309) 1480 = .ok (.iconst 0, 1) := by decide +kernel
theorem D309_1481 : decode (mB 309) 1481 = .ok (.ireturn, 1) := by decide +kernel
theorem D309_1482 : decode (mB 309) 1482 = .ok (.aload_n 1, 1) := by decide +kernel
theorem D309_1483 : decode (mB 309) 1483 = .ok (.aload_n 0, 1) := by decide +kernel
theorem D309_1484 : decode (mB 309) 1484 = .ok (.iload 4, 2) := by decide +kernel
theorem D309_1486 : decode (mB 309) 1486 = .ok (.iconst 1, 1) := by decide +kernel
theorem D309_1487 : decode (mB 309) 1487 = .ok (.iadd, 1) := by decide +kernel
theorem D309_1488 : decode (mB 309) 1488 = .ok (.iaload, 1) := by decide +kernel
theorem D309_1489 : decode (mB 309) 1489 = .ok (.aload_n 0, 1) := by decide +kernel
theorem D309_1490 : decode (mB 309) 1490 = .ok (.iload 4, 2) := by decide +kernel
theorem D309_1492 : decode (mB 309) 1492 = .ok (.iconst 2, 1) := by decide +kernel
theorem D309_1493 : decode (mB 309) 1493 = .ok (.iadd, 1) := by decide +kernel
theorem D309_1494 : decode (mB 309) 1494 = .ok (.iaload, 1) := by decide +kernel
theorem D309_1495 : CS 309 1495 193 0 := ⟨.invokevirtual 151, by decide +kernel, by decide +kernel, by decide +kernel, by decide⟩
theorem D309_1498 : decode (mB 309) 1498 = .ok (.aload_n 2, 1) := by decide +kernel
theorem D309_1499 : decode (mB 309) 1499 = .ok (.aload_n 0, 1) := by decide +kernel
theorem D309_1500 : decode (mB 309) 1500 = .ok (.iload 4, 2) := by decide +kernel
theorem D309_1502 : decode (mB 309) 1502 = .ok (.iconst 1, 1) := by decide +kernel
theorem D309_1503 : decode (mB 309) 1503 = .ok (.iadd, 1) := by decide +kernel
theorem D309_1504 : decode (mB 309) 1504 = .ok (.iaload, 1) := by decide +kernel
theorem D309_1505 : decode (mB 309) 1505 = .ok (.aload_n 0, 1) := by decide +kernel
theorem D309_1506 : decode (mB 309) 1506 = .ok (.iload 4, 2) := by decide +kernel
theorem D309_1508 : decode (mB 309) 1508 = .ok (.iconst 2, 1) := by decide +kernel
theorem D309_1509 : decode (mB 309) 1509 = .ok (.iadd, 1) := by decide +kernel
theorem D309_1510 : decode (mB 309) 1510 = .ok (.iaload, 1) := by decide +kernel
theorem D309_1511 : CS 309 1511 293 0 := ⟨.invokevirtual 154, by decide +kernel, by decide +kernel, by decide +kernel, by decide⟩
theorem D309_1514 : BR 309 1514 (.if_icmp .eq 304) (304) 1818 := ⟨by decide +kernel, by decide, by decide⟩
theorem D309_1517 : decode (mB 309) 1517 = .ok (.iconst 0, 1) := by decide +kernel
theorem D309_1518 : decode (mB 309) 1518 = .ok (.ireturn, 1) := by decide +kernel
theorem D309_1519 : decode (mB 309) 1519 = .ok (.aload_n 1, 1) := by decide +kernel
theorem D309_1520 : decode (mB 309) 1520 = .ok (.aload_n 0, 1) := by decide +kernel
theorem D309_1521 : decode (mB 309) 1521 = .ok (.iload 4, 2) := by decide +kernel
theorem D309_1523 : decode (mB 309) 1523 = .ok (.iconst 1, 1) := by decide +kernel
theorem D309_1524 : decode (mB 309) 1524 = .ok (.iadd, 1) := by decide +kernel
theorem D309_1525 : decode (mB 309) 1525 = .ok (.iaload, 1) := by decide +kernel
theorem D309_1526 : decode (mB 309) 1526 = .ok (.aload_n 0, 1) := by decide +kernel
theorem D309_1527 : decode (mB 309) 1527 = .ok (.iload 4, 2) := by decide +kernel
theorem D309_1529 : decode (mB 309) 1529 = .ok (.iconst 2, 1) := by decide +kernel
theorem D309_1530 : decode (mB 309) 1530 = .ok (.iadd, 1) := by decide +kernel
theorem D309_1531 : decode (mB 309) 1531 = .ok (.iaload, 1) := by decide +kernel
theorem D309_1532 : CS 309 1532 194 0 := ⟨.invokevirtual 155, by decide +kernel, by decide +kernel, by decide +kernel, by decide⟩
theorem D309_1535 : decode (mB 309) 1535 = .ok (.aload_n 2, 1) := by decide +kernel
theorem D309_1536 : decode (mB 309) 1536 = .ok (.aload_n 0, 1) := by decide +kernel
theorem D309_1537 : decode (mB 309) 1537 = .ok (.iload 4, 2) := by decide +kernel
theorem D309_1539 : decode (mB 309) 1539 = .ok (.iconst 1, 1) := by decide +kernel
theorem D309_1540 : decode (mB 309) 1540 = .ok (.iadd, 1) := by decide +kernel
theorem D309_1541 : decode (mB 309) 1541 = .ok (.iaload, 1) := by decide +kernel
theorem D309_1542 : decode (mB 309) 1542 = .ok (.aload_n 0, 1) := by decide +kernel
theorem D309_1543 : decode (mB 309) 1543 = .ok (.iload 4, 2) := by decide +kernel
theorem D309_1545 : decode (mB 309) 1545 = .ok (.iconst 2, 1) := by decide +kernel
theorem D309_1546 : decode (mB 309) 1546 = .ok (.iadd, 1) := by decide +kernel
theorem D309_1547 : decode (mB 309) 1547 = .ok (.iaload, 1) := by decide +kernel
theorem D309_1548 : CS 309 1548 294 0 := ⟨.invokevirtual 158, by decide +kernel, by decide +kernel, by decide +kernel, by decide⟩
theorem D309_1551 : BR 309 1551 (.if_icmp .eq 267) (267) 1818 := ⟨by decide +kernel, by decide, by decide⟩
theorem D309_1554 : decode (mB 309) 1554 = .ok (.iconst 0, 1) := by decide +kernel
theorem D309_1555 : decode (mB 309) 1555 = .ok (.ireturn, 1) := by decide +kernel
theorem D309_1556 : decode (mB 309) 1556 = .ok (.aload_n 1, 1) := by decide +kernel
theorem D309_1557 : decode (mB 309) 1557 = .ok (.aload_n 0, 1) := by decide +kernel
theorem D309_1558 : decode (mB 309) 1558 = .ok (.iload 4, 2) := by decide +kernel
theorem D309_1560 : decode (mB 309) 1560 = .ok (.iconst 1, 1) := by decide +kernel
theorem D309_1561 : decode (mB 309) 1561 = .ok (.iadd, 1) := by decide +kernel
theorem D309_1562 : decode (mB 309) 1562 = .ok (.iaload, 1) := by decide +kernel
theorem D309_1563 : decode (mB 309) 1563 = .ok (.aload_n 0, 1) := by decide +kernel
theorem D309_1564 : decode (mB 309) 1564 = .ok (.iload 4, 2) := by decide +kernel
theorem D309_1566 : decode (mB 309) 1566 = .ok (.iconst 2, 1) := by decide +kernel
theorem D309_1567 : decode (mB 309) 1567 = .ok (.iadd, 1) := by decide +kernel
theorem D309_1568 : decode (mB 309) 1568 = .ok (.iaload, 1) := by decide +kernel
theorem D309_1569 : decode (mB 309) 1569 = .ok (.aload_n 0, 1) := by decide +kernel
theorem D309_1570 : decode (mB 309) 1570 = .ok (.iload 4, 2) := by decide +kernel
theorem D309_1572 : decode (mB 309) 1572 = .ok (.iconst 3, 1) := by decide +kernel
theorem D309_1573 : decode (mB 309) 1573 = .ok (.iadd, 1) := by decide +kernel
theorem D309_1574 : decode (mB 309) 1574 = .ok (.iaload, 1) := by decide +kernel
theorem D309_1575 : CS 309 1575 150 0 := ⟨.invokevirtual 159, by decide +kernel, by decide +kernel, by decide +kernel, by decide⟩
theorem D309_1578 : decode (mB 309) 1578 = .ok (.aload_n 2, 1) := by decide +kernel
theorem D309_1579 : decode (mB 309) 1579 = .ok (.aload_n 0, 1) := by decide +kernel
theorem D309_1580 : decode (mB 309) 1580 = .ok (.iload 4, 2) := by decide +kernel
theorem D309_1582 : decode (mB 309) 1582 = .ok (.iconst 1, 1) := by decide +kernel
theorem D309_1583 : decode (mB 309) 1583 = .ok (.iadd, 1) := by decide +kernel
theorem D309_1584 : decode (mB 309) 1584 = .ok (.iaload, 1) := by decide +kernel
theorem D309_1585 : decode (mB 309) 1585 = .ok (.aload_n 0, 1) := by decide +kernel
theorem D309_1586 : decode (mB 309) 1586 = .ok (.iload 4, 2) := by decide +kernel
theorem D309_1588 : decode (mB 309) 1588 = .ok (.iconst 2, 1) := by decide +kernel
theorem D309_1589 : decode (mB 309) 1589 = .ok (.iadd, 1) := by decide +kernel
theorem D309_1590 : decode (mB 309) 1590 = .ok (.iaload, 1) := by decide +kernel
theorem D309_1591 : decode (mB 309) 1591 = .ok (.aload_n 0, 1) := by decide +kernel
theorem D309_1592 : decode (mB 309) 1592 = .ok (.iload 4, 2) := by decide +kernel
theorem D309_1594 : decode (mB 309) 1594 = .ok (.iconst 3, 1) := by decide +kernel
theorem D309_1595 : decode (mB 309) 1595 = .ok (.iadd, 1) := by decide +kernel
theorem D309_1596 : decode (mB 309) 1596 = .ok (.iaload, 1) := by decide +kernel
theorem D309_1597 : CS 309 1597 295 0 := ⟨.invokevirtual 162, by decide +kernel, by decide +kernel, by decide +kernel, by decide⟩
theorem D309_1600 : BR 309 1600 (.if_icmp .eq 218) (218) 1818 := ⟨by decide +kernel, by decide, by decide⟩
theorem D309_1603 : decode (mB 309) 1603 = .ok (.iconst 0, 1) := by decide +kernel
theorem D309_1604 : decode (mB 309) 1604 = .ok (.ireturn, 1) := by decide +kernel
theorem D309_1605 : decode (mB 309) 1605 = .ok (.aload_n 1, 1) := by decide +kernel
theorem D309_1606 : decode (mB 309) 1606 = .ok (.aload_n 0, 1) := by decide +kernel
theorem D309_1607 : decode (mB 309) 1607 = .ok (.iload 4, 2) := by decide +kernel
theorem D309_1609 : decode (mB 309) 1609 = .ok (.iconst 1, 1) := by decide +kernel
theorem D309_1610 : decode (mB 309) 1610 = .ok (.iadd, 1) := by decide +kernel
theorem D309_1611 : decode (mB 309) 1611 = .ok (.iaload, 1) := by decide +kernel
theorem D309_1612 : decode (mB 309) 1612 = .ok (.aload_n 0, 1) := by decide +kernel
theorem D309_1613 : decode (mB 309) 1613 = .ok (.iload 4, 2) := by decide +kernel
theorem D309_1615 : decode (mB 309) 1615 = .ok (.iconst 2, 1) := by decide +kernel
theorem D309_1616 : decode (mB 309) 1616 = .ok (.iadd, 1) := by decide +kernel
theorem D309_1617 : decode (mB 309) 1617 = .ok (.iaload, 1) := by decide +kernel
theorem D309_1618 : CS 309 1618 177 0 := ⟨.invokevirtual 163, by decide +kernel, by decide +kernel, by decide +kernel, by decide⟩
theorem D309_1621 : decode (mB 309) 1621 = .ok (.aload_n 2, 1) := by decide +kernel
theorem D309_1622 : decode (mB 309) 1622 = .ok (.aload_n 0, 1) := by decide +kernel
theorem D309_1623 : decode (mB 309) 1623 = .ok (.iload 4, 2) := by decide +kernel
theorem D309_1625 : decode (mB 309) 1625 = .ok (.iconst 1, 1) := by decide +kernel
theorem D309_1626 : decode (mB 309) 1626 = .ok (.iadd, 1) := by decide +kernel
theorem D309_1627 : decode (mB 309) 1627 = .ok (.iaload, 1) := by decide +kernel
theorem D309_1628 : decode (mB 309) 1628 = .ok (.aload_n 0, 1) := by decide +kernel
theorem D309_1629 : decode (mB 309) 1629 = .ok (.iload 4, 2) := by decide +kernel
theorem D309_1631 : decode (mB 309) 1631 = .ok (.iconst 2, 1) := by decide +kernel
theorem D309_1632 : decode (mB 309) 1632 = .ok (.iadd, 1) := by decide +kernel
theorem D309_1633 : decode (mB 309) 1633 = .ok (.iaload, 1) := by decide +kernel
theorem D309_1634 : CS 309 1634 300 0 := ⟨.invokevirtual 166, by decide +kernel, by decide +kernel, by decide +kernel, by decide⟩
theorem D309_1637 : BR 309 1637 (.if_icmp .eq 181) (181) 1818 := ⟨by decide +kernel, by decide, by decide⟩
theorem D309_1640 : decode (mB 309) 1640 = .ok (.iconst 0, 1) := by decide +kernel
theorem D309_1641 : decode (mB 309) 1641 = .ok (.ireturn, 1) := by decide +kernel
theorem D309_1642 : decode (mB 309) 1642 = .ok (.aload_n 1, 1) := by decide +kernel
theorem D309_1643 : decode (mB 309) 1643 = .ok (.aload_n 0, 1) := by decide +kernel
theorem D309_1644 : decode (mB 309) 1644 = .ok (.iload 4, 2) := by decide +kernel
theorem D309_1646 : decode (mB 309) 1646 = .ok (.iconst 1, 1) := by decide +kernel
theorem D309_1647 : decode (mB 309) 1647 = .ok (.iadd, 1) := by decide +kernel
theorem D309_1648 : decode (mB 309) 1648 = .ok (.iaload, 1) := by decide +kernel
theorem D309_1649 : decode (mB 309) 1649 = .ok (.aload_n 0, 1) := by decide +kernel
theorem D309_1650 : decode (mB 309) 1650 = .ok (.iload 4, 2) := by decide +kernel
theorem D309_1652 : decode (mB 309) 1652 = .ok (.iconst 2, 1) := by decide +kernel
theorem D309_1653 : decode (mB 309) 1653 = .ok (.iadd, 1) := by decide +kernel
theorem D309_1654 : decode (mB 309) 1654 = .ok (.iaload, 1) := by decide +kernel
theorem D309_1655 : decode (mB 309) 1655 = .ok (.aload_n 0, 1) := by decide +kernel
theorem D309_1656 : decode (mB 309) 1656 = .ok (.iload 4, 2) := by decide +kernel
theorem D309_1658 : decode (mB 309) 1658 = .ok (.iconst 3, 1) := by decide +kernel
theorem D309_1659 : decode (mB 309) 1659 = .ok (.iadd, 1) := by decide +kernel
theorem D309_1660 : decode (mB 309) 1660 = .ok (.iaload, 1) := by decide +kernel
theorem D309_1661 : decode (mB 309) 1661 = .ok (.aload_n 0, 1) := by decide +kernel
theorem D309_1662 : decode (mB 309) 1662 = .ok (.iload 4, 2) := by decide +kernel
theorem D309_1664 : decode (mB 309) 1664 = .ok (.iconst 4, 1) := by decide +kernel
theorem D309_1665 : decode (mB 309) 1665 = .ok (.iadd, 1) := by decide +kernel
theorem D309_1666 : decode (mB 309) 1666 = .ok (.iaload, 1) := by decide +kernel
theorem D309_1667 : CS 309 1667 173 0 := ⟨.invokevirtual 167, by decide +kernel, by decide +kernel, by decide +kernel, by decide⟩
theorem D309_1670 : decode (mB 309) 1670 = .ok (.aload_n 2, 1) := by decide +kernel
theorem D309_1671 : decode (mB 309) 1671 = .ok (.aload_n 0, 1) := by decide +kernel
theorem D309_1672 : decode (mB 309) 1672 = .ok (.iload 4, 2) := by decide +kernel
theorem D309_1674 : decode (mB 309) 1674 = .ok (.iconst 1, 1) := by decide +kernel
theorem D309_1675 : decode (mB 309) 1675 = .ok (.iadd, 1) := by decide +kernel
theorem D309_1676 : decode (mB 309) 1676 = .ok (.iaload, 1) := by decide +kernel
theorem D309_1677 : decode (mB 309) 1677 = .ok (.aload_n 0, 1) := by decide +kernel
theorem D309_1678 : decode (mB 309) 1678 = .ok (.iload 4, 2) := by decide +kernel
theorem D309_1680 : decode (mB 309) 1680 = .ok (.iconst 2, 1) := by decide +kernel
theorem D309_1681 : decode (mB 309) 1681 = .ok (.iadd, 1) := by decide +kernel
theorem D309_1682 : decode (mB 309) 1682 = .ok (.iaload, 1) := by decide +kernel
theorem D309_1683 : decode (mB 309) 1683 = .ok (.aload_n 0, 1) := by decide +kernel
theorem D309_1684 : decode (mB 309) 1684 = .ok (.iload 4, 2) := by decide +kernel
theorem D309_1686 : decode (mB 309) 1686 = .ok (.iconst 3, 1) := by decide +kernel
theorem D309_1687 : decode (mB 309) 1687 = .ok (.iadd, 1) := by decide +kernel
theorem D309_1688 : decode (mB 309) 1688 = .ok (.iaload, 1) := by decide +kernel
theorem D309_1689 : decode (mB 309) 1689 = .ok (.aload_n 0, 1) := by decide +kernel
theorem D309_1690 : decode (mB 309) 1690 = .ok (.iload 4, 2) := by decide +kernel
theorem D309_1692 : decode (mB 309) 1692 = .ok (.iconst 4, 1) := by decide +kernel
theorem D309_1693 : decode (mB 309) 1693 = .ok (.iadd, 1) := by decide +kernel
theorem D309_1694 : decode (mB 309) 1694 = .ok (.iaload, 1) := by decide +kernel
theorem D309_1695 : CS 309 1695 301 0 := ⟨.invokevirtual 170, by decide +kernel, by decide +kernel, by decide +kernel, by decide⟩
theorem D309_1698 : BR 309 1698 (.if_icmp .eq 120) (120) 1818 := ⟨by decide +kernel, by decide, by decide⟩
theorem D309_1701 : decode (mB 309) 1701 = .ok (.iconst 0, 1) := by decide +kernel
theorem D309_1702 : decode (mB 309) 1702 = .ok (.ireturn, 1) := by decide +kernel
theorem D309_1703 : decode (mB 309) 1703 = .ok (.aload_n 1, 1) := by decide +kernel
theorem D309_1704 : decode (mB 309) 1704 = .ok (.aload_n 0, 1) := by decide +kernel
theorem D309_1705 : decode (mB 309) 1705 = .ok (.iload 4, 2) := by decide +kernel
theorem D309_1707 : decode (mB 309) 1707 = .ok (.iconst 1, 1) := by decide +kernel
theorem D309_1708 : decode (mB 309) 1708 = .ok (.iadd, 1) := by decide +kernel
theorem D309_1709 : decode (mB 309) 1709 = .ok (.iaload, 1) := by decide +kernel
theorem D309_1710 : decode (mB 309) 1710 = .ok (.aload_n 0, 1) := by decide +kernel
theorem D309_1711 : decode (mB 309) 1711 = .ok (.iload 4, 2) := by decide +kernel
theorem D309_1713 : decode (mB 309) 1713 = .ok (.iconst 2, 1) := by decide +kernel
theorem D309_1714 : decode (mB 309) 1714 = .ok (.iadd, 1) := by decide +kernel
theorem D309_1715 : decode (mB 309) 1715 = .ok (.iaload, 1) := by decide +kernel
theorem D309_1716 : CS 309 1716 175 0 := ⟨.invokevirtual 171, by decide +kernel, by decide +kernel, by decide +kernel, by decide⟩
theorem D309_1719 : decode (mB 309) 1719 = .ok (.aload_n 2, 1) := by decide +kernel
theorem D309_1720 : decode (mB 309) 1720 = .ok (.aload_n 0, 1) := by decide +kernel
theorem D309_1721 : decode (mB 309) 1721 = .ok (.iload 4, 2) := by decide +kernel
theorem D309_1723 : decode (mB 309) 1723 = .ok (.iconst 1, 1) := by decide +kernel
theorem D309_1724 : decode (mB 309) 1724 = .ok (.iadd, 1) := by decide +kernel
theorem D309_1725 : decode (mB 309) 1725 = .ok (.iaload, 1) := by decide +kernel
theorem D309_1726 : decode (mB 309) 1726 = .ok (.aload_n 0, 1) := by decide +kernel
theorem D309_1727 : decode (mB 309) 1727 = .ok (.iload 4, 2) := by decide +kernel
theorem D309_1729 : decode (mB 309) 1729 = .ok (.iconst 2, 1) := by decide +kernel
theorem D309_1730 : decode (mB 309) 1730 = .ok (.iadd, 1) := by decide +kernel
theorem D309_1731 : decode (mB 309) 1731 = .ok (.iaload, 1) := by decide +kernel
theorem D309_1732 : CS 309 1732 302 0 := ⟨.invokevirtual 174, by decide +kernel, by decide +kernel, by decide +kernel, by decide⟩
theorem D309_1735 : BR 309 1735 (.if_icmp .eq 83) (83) 1818 := ⟨by decide +kernel, by decide, by decide⟩
theorem D309_1738 : decode (mB 309) 1738 = .ok (.iconst 0, 1) := by decide +kernel
theorem D309_1739 : decode (mB 309) 1739 = .ok (.ireturn, 1) := by decide +kernel
theorem D309_1740 : decode (mB 309) 1740 = .ok (.aload_n 1, 1) := by decide +kernel
theorem D309_1741 : decode (mB 309) 1741 = .ok (.aload_n 0, 1) := by decide +kernel
theorem D309_1742 : decode (mB 309) 1742 = .ok (.iload 4, 2) := by decide +kernel
theorem D309_1744 : decode (mB 309) 1744 = .ok (.iconst 1, 1) := by decide +kernel
theorem D309_1745 : decode (mB 309) 1745 = .ok (.iadd, 1) := by decide +kernel
theorem D309_1746 : decode (mB 309) 1746 = .ok (.iaload, 1) := by decide +kernel
theorem D309_1747 : decode (mB 309) 1747 = .ok (.aload_n 0, 1) := by decide +kernel
theorem D309_1748 : decode (mB 309) 1748 = .ok (.iload 4, 2) := by decide +kernel
theorem D309_1750 : decode (mB 309) 1750 = .ok (.iconst 2, 1) := by decide +kernel
theorem D309_1751 : decode (mB 309) 1751 = .ok (.iadd, 1) := by decide +kernel
theorem D309_1752 : decode (mB 309) 1752 = .ok (.iaload, 1) := by decide +kernel
theorem D309_1753 : BR 309 1753 (.ifCond .eq 7) (7) 1760 := ⟨by decide +kernel, by decide, by decide⟩
theorem D309_1760 : decode (mB 309) 1760 = .ok (.iconst 0, 1) := by decide +kernel
theorem D309_1756 : decode (mB 309) 1756 = .ok (.iconst 1, 1) := by decide +kernel
theorem D309_1757 : BR 309 1757 (.goto 4) (4) 1761 := ⟨by decide +kernel, by decide, by decide⟩
theorem D309_1761 : CS 309 1761 196 0 := ⟨.invokevirtual 175, by decide +kernel, by decide +kernel, by decide +kernel, by decide⟩
theorem D309_1764 : decode (mB 309) 1764 = .ok (.aload_n 2, 1) := by decide +kernel
theorem D309_1765 : decode (mB 309) 1765 = .ok (.aload_n 0, 1) := by decide +kernel
theorem D309_1766 : decode (mB 309) 1766 = .ok (.iload 4, 2) := by decide +kernel
theorem D309_1768 : decode (mB 309) 1768 = .ok (.iconst 1, 1) := by decide +kernel
theorem D309_1769 : decode (mB 309) 1769 = .ok (.iadd, 1) := by decide +kernel
theorem D309_1770 : decode (mB 309) 1770 = .ok (.iaload, 1) := by decide +kernel
theorem D309_1771 : decode (mB 309) 1771 = .ok (.aload_n 0, 1) := by decide +kernel
theorem D309_1772 : decode (mB 309) 1772 = .ok (.iload 4, 2) := by decide +kernel
theorem D309_1774 : decode (mB 309) 1774 = .ok (.iconst 2, 1) := by decide +kernel
theorem D309_1775 : decode (mB 309) 1775 = .ok (.iadd, 1) := by decide +kernel
theorem D309_1776 : decode (mB 309) 1776 = .ok (.iaload, 1) := by decide +kernel
theorem D309_1777 : BR 309 1777 (.ifCond .eq 7) (7) 1784 := ⟨by decide +kernel, by decide, by decide⟩
theorem D309_1784 : decode (mB 309) 1784 = .ok (.iconst 0, 1) := by decide +kernel
theorem D309_1785 : CS 309 1785 303 0 := ⟨.invokevirtual 179, by decide +kernel, by decide +kernel, by decide +kernel, by decide⟩
theorem D309_1788 : BR 309 1788 (.if_icmp .eq 30) (30) 1818 := ⟨by decide +kernel, by decide, by decide⟩
theorem D309_1791 : decode (mB 309) 1791 = .ok (.iconst 0, 1) := by decide +kernel
theorem D309_1792 : decode (mB 309) 1792 = .ok (.ireturn, 1) := by decide +kernel
theorem D309_1780 : decode (mB 309) 1780 = .ok (.iconst 1, 1) := by decide +kernel
theorem D309_1781 : BR 309 1781 (.goto 4) (4) 1785 := ⟨by decide +kernel, by decide, by decide⟩
theorem D309_1793 : decode (mB 309) 1793 = .ok (.aload_n 1, 1) := by decide +kernel
theorem D309_1794 : decode (mB 309) 1794 = .ok (.aload_n 0, 1) := by decide +kernel
theorem D309_1795 : decode (mB 309) 1795 = .ok (.iload 4, 2) := by decide +kernel
theorem D309_1797 : decode (mB 309) 1797 = .ok (.iconst 1, 1) := by decide +kernel
theorem D309_1798 : decode (mB 309) 1798 = .ok (.iadd, 1) := by decide +kernel
theorem D309_1799 : decode (mB 309) 1799 = .ok (.iaload, 1) := by decide +kernel
theorem D309_1800 : CS 309 1800 199 0 := ⟨.invokevirtual 180, by decide +kernel, by decide +kernel, by decide +kernel, by decide⟩
theorem D309_1803 : decode (mB 309) 1803 = .ok (.aload_n 2, 1) := by decide +kernel
theorem D309_1804 : decode (mB 309) 1804 = .ok (.aload_n 0, 1) := by decide +kernel
theorem D309_1805 : decode (mB 309) 1805 = .ok (.iload 4, 2) := by decide +kernel
theorem D309_1807 : decode (mB 309) 1807 = .ok (.iconst 1, 1) := by decide +kernel
theorem D309_1808 : decode (mB 309) 1808 = .ok (.iadd, 1) := by decide +kernel
theorem D309_1809 : decode (mB 309) 1809 = .ok (.iaload, 1) := by decide +kernel
theorem D309_1810 : CS 309 1810 307 0 := ⟨.invokevirtual 183, by decide +kernel, by decide +kernel, by decide +kernel, by decide⟩
theorem D309_1813 : BR 309 1813 (.if_icmp .eq 5) (5) 1818 := ⟨by decide +kernel, by decide, by decide⟩
theorem D309_1816 : decode (mB 309) 1816 = .ok (.iconst 0, 1) := by decide +kernel
theorem D309_1817 : decode (mB 309) 1817 = .ok (.ireturn, 1) := by decide +kernel
theorem D309_1818 : decode (mB 309) 1818 = .ok (.iinc 4 7, 3) := by decide +kernel
theorem D309_1821 : BR 309 1821 (.goto (-1798)) (-1798) 23 := ⟨by decide +kernel, by decide, by decide⟩
theorem La_law_e (d : Nat) (a0 : Nat) (m : eM)  : La_law (d + 1) a0 m = nw m 12 9 fun a1 m2 => gd a1 9 (bV (LC_init d a1 m2) fun m4 => nw m4 69 10 fun a5 m6 => gd a5 10 (bV (Mo_init d a5 m6) fun m8 => nA m8 21 (1 : Int32) fun a9 m10 => La_law_23 (d + 1) a0 a1 a5 a9 (0 : Int32) eU eU m10)) := by
  unfold La_law
  refine (x_new D309_0).trans (nw_c fun a1 m2 => ?_)
  refine (x_dup1 D309_3 rfl).trans ?_
  refine (x_cg D309_4 M0 rfl rfl).trans (gd_c fun h3 => ?_)
  refine (x_cV D309_4 M0  (I0 _) rfl rfl (ok_i M0 (I0 _) rfl rfl h3)).trans (bV_c fun m4 => ?_)
  refine (x_astore1 D309_7 (ls' := [.ref a0, .ref a1, eU, eU, eU, eU, eU, eU]) rfl rfl).trans ?_
  refine (x_new D309_8).trans (nw_c fun a5 m6 => ?_)
  refine (x_dup1 D309_11 rfl).trans ?_
  refine (x_cg D309_12 M204 rfl rfl).trans (gd_c fun h7 => ?_)
  refine (x_cV D309_12 M204  (I204 _) rfl rfl (ok_i M204 (I204 _) rfl rfl h7)).trans (bV_c fun m8 => ?_)
  refine (x_astore1 D309_15 (ls' := [.ref a0, .ref a1, .ref a5, eU, eU, eU, eU, eU]) rfl rfl).trans ?_
  refine (x_iconst D309_16 (k := 1) (by decide)).trans ?_
  refine (x_newJ D309_17).trans (nA_c fun a9 m10 => ?_)
  refine (x_astore1 D309_19 (ls' := [.ref a0, .ref a1, .ref a5, .ref a9, eU, eU, eU, eU]) rfl rfl).trans ?_
  refine (x_iconst D309_20 (k := 0) (by decide)).trans ?_
  refine (x_istore2 D309_21 (ls' := [.ref a0, .ref a1, .ref a5, .ref a9, .int (0 : Int32), eU, eU, eU]) rfl rfl).trans ?_
  rfl
theorem La_law_23_e (d : Nat) (a0 : Nat) (a1 : Nat) (a2 : Nat) (a3 : Nat) (x4 : Int32) (w5 : Value) (w6 : Value) (m : eM) (h_a1 : kd a1 = 9) (h_a2 : kd a2 = 10) : La_law_23 (d + 1) a0 a1 a2 a3 x4 w5 w6 m = gl a0 (if (((aln m a0).toInt32) - (7 : Int32)) < x4 then (yI (1 : Int32) m) else (ga m a0 20 x4 (tsw (0 : Int32) [La_law_204 (d + 1) a0 a1 a2 a3 x4 w5 w6 m, La_law_351 (d + 1) a0 a1 a2 a3 x4 w5 w6 m, La_law_364 (d + 1) a0 a1 a2 a3 x4 w5 w6 m, La_law_401 (d + 1) a0 a1 a2 a3 x4 w5 w6 m, La_law_438 (d + 1) a0 a1 a2 a3 x4 w5 w6 m, La_law_463 (d + 1) a0 a1 a2 a3 x4 w5 w6 m, La_law_524 (d + 1) a0 a1 a2 a3 x4 w5 w6 m, La_law_561 (d + 1) a0 a1 a2 a3 x4 w5 w6 m, La_law_586 (d + 1) a0 a1 a2 a3 x4 w5 w6 m, La_law_623 (d + 1) a0 a1 a2 a3 x4 w5 w6 m, La_law_672 (d + 1) a0 a1 a2 a3 x4 w5 w6 m, La_law_697 (d + 1) a0 a1 a2 a3 x4 w5 w6 m, La_law_722 (d + 1) a0 a1 a2 a3 x4 w5 w6 m, La_law_747 (d + 1) a0 a1 a2 a3 x4 w5 w6 m, La_law_785 (d + 1) a0 a1 a2 a3 x4 w5 w6 m, La_law_822 (d + 1) a0 a1 a2 a3 x4 w5 w6 m, La_law_847 (d + 1) a0 a1 a2 a3 x4 w5 w6 m, La_law_908 (d + 1) a0 a1 a2 a3 x4 w5 w6 m, La_law_969 (d + 1) a0 a1 a2 a3 x4 w5 w6 m, La_law_1058 (d + 1) a0 a1 a2 a3 x4 w5 w6 m, La_law_1071 (d + 1) a0 a1 a2 a3 x4 w5 w6 m, La_law_1108 (d + 1) a0 a1 a2 a3 x4 w5 w6 m, La_law_1169 (d + 1) a0 a1 a2 a3 x4 w5 w6 m, La_law_1206 (d + 1) a0 a1 a2 a3 x4 w5 w6 m, La_law_1243 (d + 1) a0 a1 a2 a3 x4 w5 w6 m, La_law_1280 (d + 1) a0 a1 a2 a3 x4 w5 w6 m, La_law_1383 (d + 1) a0 a1 a2 a3 x4 w5 w6 m, La_law_1420 (d + 1) a0 a1 a2 a3 x4 w5 w6 m, La_law_1457 (d + 1) a0 a1 a2 a3 x4 w5 w6 m, La_law_1482 (d + 1) a0 a1 a2 a3 x4 w5 w6 m, La_law_1519 (d + 1) a0 a1 a2 a3 x4 w5 w6 m, La_law_1556 (d + 1) a0 a1 a2 a3 x4 w5 w6 m, La_law_1605 (d + 1) a0 a1 a2 a3 x4 w5 w6 m, La_law_1642 (d + 1) a0 a1 a2 a3 x4 w5 w6 m, La_law_1703 (d + 1) a0 a1 a2 a3 x4 w5 w6 m, La_law_1740 (d + 1) a0 a1 a2 a3 x4 w5 w6 m, La_law_1793 (d + 1) a0 a1 a2 a3 x4 w5 w6 m] (La_law_1818 (d + 1) a0 a1 a2 a3 x4 w5 w6 m) ((gI m a0 x4.toNatClampNeg) &&& (63 : Int32))))) := by
  unfold La_law_23
  refine (x_iload2 D309_23 rfl).trans ?_
  refine (x_aload1 D309_25 rfl).trans ?_
  refine (x_alen D309_26).trans (gl_c ?_)
  refine (x_bipush D309_27 (k := 7) (by decide)).trans ?_
  refine (x_isub D309_29).trans ?_
  refine (x_cgt D309_30).trans (i_c ?_ ?_)
  · refine (x_iconst D309_1824 (k := 1) (by decide)).trans ?_
    exact (x_bret D309_1825 M309.2.2.1).trans yB1
  · refine (x_aload1 D309_33 rfl).trans ?_
    refine (x_iload2 D309_34 rfl).trans ?_
    refine (x_iaload D309_36).trans (ga_c ?_)
    refine (x_bipush D309_37 (k := 63) (by decide)).trans ?_
    refine (x_iand D309_39).trans ?_
    refine (x_tab D309_40 (k := 0) (by decide)).trans ?_
    refine tsw_c ?_ ?_
    · rfl
    refine tsw_c ?_ ?_
    · rfl
    refine tsw_c ?_ ?_
    · rfl
    refine tsw_c ?_ ?_
    · rfl
    refine tsw_c ?_ ?_
    · rfl
    refine tsw_c ?_ ?_
    · rfl
    refine tsw_c ?_ ?_
    · rfl
    refine tsw_c ?_ ?_
    · rfl
    refine tsw_c ?_ ?_
    · rfl
    refine tsw_c ?_ ?_
    · rfl
    refine tsw_c ?_ ?_
    · rfl
    refine tsw_c ?_ ?_
    · rfl
    refine tsw_c ?_ ?_
    · rfl
    refine tsw_c ?_ ?_
    · rfl
    refine tsw_c ?_ ?_
    · rfl
    refine tsw_c ?_ ?_
    · rfl
    refine tsw_c ?_ ?_
    · rfl
    refine tsw_c ?_ ?_
    · rfl
    refine tsw_c ?_ ?_
    · rfl
    refine tsw_c ?_ ?_
    · rfl
    refine tsw_c ?_ ?_
    · rfl
    refine tsw_c ?_ ?_
    · rfl
    refine tsw_c ?_ ?_
    · rfl
    refine tsw_c ?_ ?_
    · rfl
    refine tsw_c ?_ ?_
    · rfl
    refine tsw_c ?_ ?_
    · rfl
    refine tsw_c ?_ ?_
    · rfl
    refine tsw_c ?_ ?_
    · rfl
    refine tsw_c ?_ ?_
    · rfl
    refine tsw_c ?_ ?_
    · rfl
    refine tsw_c ?_ ?_
    · rfl
    refine tsw_c ?_ ?_
    · rfl
    refine tsw_c ?_ ?_
    · rfl
    refine tsw_c ?_ ?_
    · rfl
    refine tsw_c ?_ ?_
    · rfl
    refine tsw_c ?_ ?_
    · rfl
    refine tsw_c ?_ ?_
    · rfl
    refine tsw_d ?_
    rfl
theorem La_law_204_e (d : Nat) (a0 : Nat) (a1 : Nat) (a2 : Nat) (a3 : Nat) (x4 : Int32) (w5 : Value) (w6 : Value) (m : eM) (h_a1 : kd a1 = 9) (h_a2 : kd a2 = 10) : La_law_204 (d + 1) a0 a1 a2 a3 x4 w5 w6 m = ga m a0 20 (x4 + (1 : Int32)) (ga m a0 20 (x4 + (2 : Int32)) (ga m a0 20 (x4 + (3 : Int32)) (ga m a0 20 (x4 + (4 : Int32)) (ga m a0 20 (x4 + (5 : Int32)) (ga m a0 20 (x4 + (6 : Int32)) (bI (LC_feed d a1 ((((gI m a0 (x4 + (1 : Int32)).toNatClampNeg).toInt64) <<< ((32 : Int32).toInt64 &&& 63)) ||| (((gI m a0 (x4 + (2 : Int32)).toNatClampNeg).toInt64) &&& (4294967295 : Int64))) ((((gI m a0 (x4 + (3 : Int32)).toNatClampNeg).toInt64) <<< ((32 : Int32).toInt64 &&& 63)) ||| (((gI m a0 (x4 + (4 : Int32)).toNatClampNeg).toInt64) &&& (4294967295 : Int64))) ((((gI m a0 (x4 + (5 : Int32)).toNatClampNeg).toInt64) <<< ((32 : Int32).toInt64 &&& 63)) ||| (((gI m a0 (x4 + (6 : Int32)).toNatClampNeg).toInt64) &&& (4294967295 : Int64))) m) fun v2 m1 => ga m1 a0 20 (x4 + (1 : Int32)) (ga m1 a0 20 (x4 + (2 : Int32)) (ga m1 a0 20 (x4 + (3 : Int32)) (ga m1 a0 20 (x4 + (4 : Int32)) (ga m1 a0 20 (x4 + (5 : Int32)) (ga m1 a0 20 (x4 + (6 : Int32)) (bI (Mo_feed d a2 ((((gI m1 a0 (x4 + (1 : Int32)).toNatClampNeg).toInt64) <<< ((32 : Int32).toInt64 &&& 63)) ||| (((gI m1 a0 (x4 + (2 : Int32)).toNatClampNeg).toInt64) &&& (4294967295 : Int64))) ((((gI m1 a0 (x4 + (3 : Int32)).toNatClampNeg).toInt64) <<< ((32 : Int32).toInt64 &&& 63)) ||| (((gI m1 a0 (x4 + (4 : Int32)).toNatClampNeg).toInt64) &&& (4294967295 : Int64))) ((((gI m1 a0 (x4 + (5 : Int32)).toNatClampNeg).toInt64) <<< ((32 : Int32).toInt64 &&& 63)) ||| (((gI m1 a0 (x4 + (6 : Int32)).toNatClampNeg).toInt64) &&& (4294967295 : Int64))) m1) fun v4 m3 => if v2 = v4 then (La_law_1818 (d + 1) a0 a1 a2 a3 x4 w5 w6 m3) else (yI (0 : Int32) m3))))))))))))) := by
  unfold La_law_204
  refine (x_aload1 D309_204 rfl).trans ?_
  refine (x_aload1 D309_205 rfl).trans ?_
  refine (x_iload2 D309_206 rfl).trans ?_
  refine (x_iconst D309_208 (k := 1) (by decide)).trans ?_
  refine (x_iadd D309_209).trans ?_
  refine (x_iaload D309_210).trans (ga_c ?_)
  refine (x_i2l D309_211).trans ?_
  refine (x_bipush D309_212 (k := 32) (by decide)).trans ?_
  refine (x_lshl D309_214).trans ?_
  refine (x_aload1 D309_215 rfl).trans ?_
  refine (x_iload2 D309_216 rfl).trans ?_
  refine (x_iconst D309_218 (k := 2) (by decide)).trans ?_
  refine (x_iadd D309_219).trans ?_
  refine (x_iaload D309_220).trans (ga_c ?_)
  refine (x_i2l D309_221).trans ?_
  refine (x_ldc2 D309_222 R309_222).trans ?_
  refine (x_land D309_225).trans ?_
  refine (x_lor D309_226).trans ?_
  refine (x_aload1 D309_227 rfl).trans ?_
  refine (x_iload2 D309_228 rfl).trans ?_
  refine (x_iconst D309_230 (k := 3) (by decide)).trans ?_
  refine (x_iadd D309_231).trans ?_
  refine (x_iaload D309_232).trans (ga_c ?_)
  refine (x_i2l D309_233).trans ?_
  refine (x_bipush D309_234 (k := 32) (by decide)).trans ?_
  refine (x_lshl D309_236).trans ?_
  refine (x_aload1 D309_237 rfl).trans ?_
  refine (x_iload2 D309_238 rfl).trans ?_
  refine (x_iconst D309_240 (k := 4) (by decide)).trans ?_
  refine (x_iadd D309_241).trans ?_
  refine (x_iaload D309_242).trans (ga_c ?_)
  refine (x_i2l D309_243).trans ?_
  refine (x_ldc2 D309_244 R309_244).trans ?_
  refine (x_land D309_247).trans ?_
  refine (x_lor D309_248).trans ?_
  refine (x_aload1 D309_249 rfl).trans ?_
  refine (x_iload2 D309_250 rfl).trans ?_
  refine (x_iconst D309_252 (k := 5) (by decide)).trans ?_
  refine (x_iadd D309_253).trans ?_
  refine (x_iaload D309_254).trans (ga_c ?_)
  refine (x_i2l D309_255).trans ?_
  refine (x_bipush D309_256 (k := 32) (by decide)).trans ?_
  refine (x_lshl D309_258).trans ?_
  refine (x_aload1 D309_259 rfl).trans ?_
  refine (x_iload2 D309_260 rfl).trans ?_
  refine (x_bipush D309_262 (k := 6) (by decide)).trans ?_
  refine (x_iadd D309_264).trans ?_
  refine (x_iaload D309_265).trans (ga_c ?_)
  refine (x_i2l D309_266).trans ?_
  refine (x_ldc2 D309_267 R309_267).trans ?_
  refine (x_land D309_270).trans ?_
  refine (x_lor D309_271).trans ?_
  refine (x_cI D309_272 M10 (fun z => by cases z) (I10 _ _ _ _) rfl rfl (ok_i M10 (I10 _ _ _ _) rfl rfl h_a1)).trans (bI_c fun v2 m1 => ?_)
  refine (x_aload1 D309_275 rfl).trans ?_
  refine (x_aload1 D309_276 rfl).trans ?_
  refine (x_iload2 D309_277 rfl).trans ?_
  refine (x_iconst D309_279 (k := 1) (by decide)).trans ?_
  refine (x_iadd D309_280).trans ?_
  refine (x_iaload D309_281).trans (ga_c ?_)
  refine (x_i2l D309_282).trans ?_
  refine (x_bipush D309_283 (k := 32) (by decide)).trans ?_
  refine (x_lshl D309_285).trans ?_
  refine (x_aload1 D309_286 rfl).trans ?_
  refine (x_iload2 D309_287 rfl).trans ?_
  refine (x_iconst D309_289 (k := 2) (by decide)).trans ?_
  refine (x_iadd D309_290).trans ?_
  refine (x_iaload D309_291).trans (ga_c ?_)
  refine (x_i2l D309_292).trans ?_
  refine (x_ldc2 D309_293 R309_293).trans ?_
  refine (x_land D309_296).trans ?_
  refine (x_lor D309_297).trans ?_
  refine (x_aload1 D309_298 rfl).trans ?_
  refine (x_iload2 D309_299 rfl).trans ?_
  refine (x_iconst D309_301 (k := 3) (by decide)).trans ?_
  refine (x_iadd D309_302).trans ?_
  refine (x_iaload D309_303).trans (ga_c ?_)
  refine (x_i2l D309_304).trans ?_
  refine (x_bipush D309_305 (k := 32) (by decide)).trans ?_
  refine (x_lshl D309_307).trans ?_
  refine (x_aload1 D309_308 rfl).trans ?_
  refine (x_iload2 D309_309 rfl).trans ?_
  refine (x_iconst D309_311 (k := 4) (by decide)).trans ?_
  refine (x_iadd D309_312).trans ?_
  refine (x_iaload D309_313).trans (ga_c ?_)
  refine (x_i2l D309_314).trans ?_
  refine (x_ldc2 D309_315 R309_315).trans ?_
  refine (x_land D309_318).trans ?_
  refine (x_lor D309_319).trans ?_
  refine (x_aload1 D309_320 rfl).trans ?_
  refine (x_iload2 D309_321 rfl).trans ?_
  refine (x_iconst D309_323 (k := 5) (by decide)).trans ?_
  refine (x_iadd D309_324).trans ?_
  refine (x_iaload D309_325).trans (ga_c ?_)
  refine (x_i2l D309_326).trans ?_
  refine (x_bipush D309_327 (k := 32) (by decide)).trans ?_
  refine (x_lshl D309_329).trans ?_
  refine (x_aload1 D309_330 rfl).trans ?_
  refine (x_iload2 D309_331 rfl).trans ?_
  refine (x_bipush D309_333 (k := 6) (by decide)).trans ?_
  refine (x_iadd D309_335).trans ?_
  refine (x_iaload D309_336).trans (ga_c ?_)
  refine (x_i2l D309_337).trans ?_
  refine (x_ldc2 D309_338 R309_338).trans ?_
  refine (x_land D309_341).trans ?_
  refine (x_lor D309_342).trans ?_
  refine (x_cI D309_343 M207 (fun z => by cases z) (I207 _ _ _ _) rfl rfl (ok_i M207 (I207 _ _ _ _) rfl rfl h_a2)).trans (bI_c fun v4 m3 => ?_)
  refine (x_ceq D309_346).trans (i_c ?_ ?_)
  · rfl
  · refine (x_iconst D309_349 (k := 0) (by decide)).trans ?_
    exact (x_bret D309_350 M309.2.2.1).trans yB0
theorem La_law_351_e (d : Nat) (a0 : Nat) (a1 : Nat) (a2 : Nat) (a3 : Nat) (x4 : Int32) (w5 : Value) (w6 : Value) (m : eM) (h_a1 : kd a1 = 9) (h_a2 : kd a2 = 10) : La_law_351 (d + 1) a0 a1 a2 a3 x4 w5 w6 m = bI (LC_parish d a1 m) fun v2 m1 => bI (Mo_parish d a2 m1) fun v4 m3 => if v2 = v4 then (La_law_1818 (d + 1) a0 a1 a2 a3 x4 w5 w6 m3) else (yI (0 : Int32) m3) := by
  unfold La_law_351
  refine (x_aload1 D309_351 rfl).trans ?_
  refine (x_cI D309_352 M13 (fun z => by cases z) (I13 _) rfl rfl (ok_i M13 (I13 _) rfl rfl h_a1)).trans (bI_c fun v2 m1 => ?_)
  refine (x_aload1 D309_355 rfl).trans ?_
  refine (x_cI D309_356 M208 (fun z => by cases z) (I208 _) rfl rfl (ok_i M208 (I208 _) rfl rfl h_a2)).trans (bI_c fun v4 m3 => ?_)
  refine (x_ceq D309_359).trans (i_c ?_ ?_)
  · rfl
  · refine (x_iconst D309_362 (k := 0) (by decide)).trans ?_
    exact (x_bret D309_363 M309.2.2.1).trans yB0
theorem La_law_364_e (d : Nat) (a0 : Nat) (a1 : Nat) (a2 : Nat) (a3 : Nat) (x4 : Int32) (w5 : Value) (w6 : Value) (m : eM) (h_a1 : kd a1 = 9) (h_a2 : kd a2 = 10) : La_law_364 (d + 1) a0 a1 a2 a3 x4 w5 w6 m = ga m a0 20 (x4 + (1 : Int32)) (ga m a0 20 (x4 + (2 : Int32)) (bI (LC_say d a1 (gI m a0 (x4 + (1 : Int32)).toNatClampNeg) (gI m a0 (x4 + (2 : Int32)).toNatClampNeg) m) fun v2 m1 => ga m1 a0 20 (x4 + (1 : Int32)) (ga m1 a0 20 (x4 + (2 : Int32)) (bI (Mo_say d a2 (gI m1 a0 (x4 + (1 : Int32)).toNatClampNeg) (gI m1 a0 (x4 + (2 : Int32)).toNatClampNeg) m1) fun v4 m3 => if v2 = v4 then (La_law_1818 (d + 1) a0 a1 a2 a3 x4 w5 w6 m3) else (yI (0 : Int32) m3))))) := by
  unfold La_law_364
  refine (x_aload1 D309_364 rfl).trans ?_
  refine (x_aload1 D309_365 rfl).trans ?_
  refine (x_iload2 D309_366 rfl).trans ?_
  refine (x_iconst D309_368 (k := 1) (by decide)).trans ?_
  refine (x_iadd D309_369).trans ?_
  refine (x_iaload D309_370).trans (ga_c ?_)
  refine (x_aload1 D309_371 rfl).trans ?_
  refine (x_iload2 D309_372 rfl).trans ?_
  refine (x_iconst D309_374 (k := 2) (by decide)).trans ?_
  refine (x_iadd D309_375).trans ?_
  refine (x_iaload D309_376).trans (ga_c ?_)
  refine (x_cI D309_377 M66 (fun z => by cases z) (I66 _ _ _) rfl rfl (ok_i M66 (I66 _ _ _) rfl rfl h_a1)).trans (bI_c fun v2 m1 => ?_)
  refine (x_aload1 D309_380 rfl).trans ?_
  refine (x_aload1 D309_381 rfl).trans ?_
  refine (x_iload2 D309_382 rfl).trans ?_
  refine (x_iconst D309_384 (k := 1) (by decide)).trans ?_
  refine (x_iadd D309_385).trans ?_
  refine (x_iaload D309_386).trans (ga_c ?_)
  refine (x_aload1 D309_387 rfl).trans ?_
  refine (x_iload2 D309_388 rfl).trans ?_
  refine (x_iconst D309_390 (k := 2) (by decide)).trans ?_
  refine (x_iadd D309_391).trans ?_
  refine (x_iaload D309_392).trans (ga_c ?_)
  refine (x_cI D309_393 M235 (fun z => by cases z) (I235 _ _ _) rfl rfl (ok_i M235 (I235 _ _ _) rfl rfl h_a2)).trans (bI_c fun v4 m3 => ?_)
  refine (x_ceq D309_396).trans (i_c ?_ ?_)
  · rfl
  · refine (x_iconst D309_399 (k := 0) (by decide)).trans ?_
    exact (x_bret D309_400 M309.2.2.1).trans yB0
theorem La_law_401_e (d : Nat) (a0 : Nat) (a1 : Nat) (a2 : Nat) (a3 : Nat) (x4 : Int32) (w5 : Value) (w6 : Value) (m : eM) (h_a1 : kd a1 = 9) (h_a2 : kd a2 = 10) : La_law_401 (d + 1) a0 a1 a2 a3 x4 w5 w6 m = ga m a0 20 (x4 + (1 : Int32)) (ga m a0 20 (x4 + (2 : Int32)) (bI (LC_offer d a1 (gI m a0 (x4 + (1 : Int32)).toNatClampNeg) (gI m a0 (x4 + (2 : Int32)).toNatClampNeg) m) fun v2 m1 => ga m1 a0 20 (x4 + (1 : Int32)) (ga m1 a0 20 (x4 + (2 : Int32)) (bI (Mo_offer d a2 (gI m1 a0 (x4 + (1 : Int32)).toNatClampNeg) (gI m1 a0 (x4 + (2 : Int32)).toNatClampNeg) m1) fun v4 m3 => if v2 = v4 then (La_law_1818 (d + 1) a0 a1 a2 a3 x4 w5 w6 m3) else (yI (0 : Int32) m3))))) := by
  unfold La_law_401
  refine (x_aload1 D309_401 rfl).trans ?_
  refine (x_aload1 D309_402 rfl).trans ?_
  refine (x_iload2 D309_403 rfl).trans ?_
  refine (x_iconst D309_405 (k := 1) (by decide)).trans ?_
  refine (x_iadd D309_406).trans ?_
  refine (x_iaload D309_407).trans (ga_c ?_)
  refine (x_aload1 D309_408 rfl).trans ?_
  refine (x_iload2 D309_409 rfl).trans ?_
  refine (x_iconst D309_411 (k := 2) (by decide)).trans ?_
  refine (x_iadd D309_412).trans ?_
  refine (x_iaload D309_413).trans (ga_c ?_)
  refine (x_cI D309_414 M85 (fun z => by cases z) (I85 _ _ _) rfl rfl (ok_i M85 (I85 _ _ _) rfl rfl h_a1)).trans (bI_c fun v2 m1 => ?_)
  refine (x_aload1 D309_417 rfl).trans ?_
  refine (x_aload1 D309_418 rfl).trans ?_
  refine (x_iload2 D309_419 rfl).trans ?_
  refine (x_iconst D309_421 (k := 1) (by decide)).trans ?_
  refine (x_iadd D309_422).trans ?_
  refine (x_iaload D309_423).trans (ga_c ?_)
  refine (x_aload1 D309_424 rfl).trans ?_
  refine (x_iload2 D309_425 rfl).trans ?_
  refine (x_iconst D309_427 (k := 2) (by decide)).trans ?_
  refine (x_iadd D309_428).trans ?_
  refine (x_iaload D309_429).trans (ga_c ?_)
  refine (x_cI D309_430 M239 (fun z => by cases z) (I239 _ _ _) rfl rfl (ok_i M239 (I239 _ _ _) rfl rfl h_a2)).trans (bI_c fun v4 m3 => ?_)
  refine (x_ceq D309_433).trans (i_c ?_ ?_)
  · rfl
  · refine (x_iconst D309_436 (k := 0) (by decide)).trans ?_
    exact (x_bret D309_437 M309.2.2.1).trans yB0
theorem La_law_438_e (d : Nat) (a0 : Nat) (a1 : Nat) (a2 : Nat) (a3 : Nat) (x4 : Int32) (w5 : Value) (w6 : Value) (m : eM) (h_a1 : kd a1 = 9) (h_a2 : kd a2 = 10) : La_law_438 (d + 1) a0 a1 a2 a3 x4 w5 w6 m = ga m a0 20 (x4 + (1 : Int32)) (bI (LC_truth d a1 (gI m a0 (x4 + (1 : Int32)).toNatClampNeg) m) fun v2 m1 => ga m1 a0 20 (x4 + (1 : Int32)) (bI (Mo_truth d a2 (gI m1 a0 (x4 + (1 : Int32)).toNatClampNeg) m1) fun v4 m3 => if v2 = v4 then (La_law_1818 (d + 1) a0 a1 a2 a3 x4 w5 w6 m3) else (yI (0 : Int32) m3))) := by
  unfold La_law_438
  refine (x_aload1 D309_438 rfl).trans ?_
  refine (x_aload1 D309_439 rfl).trans ?_
  refine (x_iload2 D309_440 rfl).trans ?_
  refine (x_iconst D309_442 (k := 1) (by decide)).trans ?_
  refine (x_iadd D309_443).trans ?_
  refine (x_iaload D309_444).trans (ga_c ?_)
  refine (x_cI D309_445 M86 (fun z => by cases z) (I86 _ _) rfl rfl (ok_i M86 (I86 _ _) rfl rfl h_a1)).trans (bI_c fun v2 m1 => ?_)
  refine (x_aload1 D309_448 rfl).trans ?_
  refine (x_aload1 D309_449 rfl).trans ?_
  refine (x_iload2 D309_450 rfl).trans ?_
  refine (x_iconst D309_452 (k := 1) (by decide)).trans ?_
  refine (x_iadd D309_453).trans ?_
  refine (x_iaload D309_454).trans (ga_c ?_)
  refine (x_cI D309_455 M240 (fun z => by cases z) (I240 _ _) rfl rfl (ok_i M240 (I240 _ _) rfl rfl h_a2)).trans (bI_c fun v4 m3 => ?_)
  refine (x_ceq D309_458).trans (i_c ?_ ?_)
  · rfl
  · refine (x_iconst D309_461 (k := 0) (by decide)).trans ?_
    exact (x_bret D309_462 M309.2.2.1).trans yB0
theorem La_law_463_e (d : Nat) (a0 : Nat) (a1 : Nat) (a2 : Nat) (a3 : Nat) (x4 : Int32) (w5 : Value) (w6 : Value) (m : eM) (h_a1 : kd a1 = 9) (h_a2 : kd a2 = 10) : La_law_463 (d + 1) a0 a1 a2 a3 x4 w5 w6 m = ga m a0 20 (x4 + (1 : Int32)) (ga m a0 20 (x4 + (2 : Int32)) (ga m a0 20 (x4 + (3 : Int32)) (ga m a0 20 (x4 + (4 : Int32)) (bI (LC_look d a1 (gI m a0 (x4 + (1 : Int32)).toNatClampNeg) (gI m a0 (x4 + (2 : Int32)).toNatClampNeg) (gI m a0 (x4 + (3 : Int32)).toNatClampNeg) (gI m a0 (x4 + (4 : Int32)).toNatClampNeg) m) fun v2 m1 => ga m1 a0 20 (x4 + (1 : Int32)) (ga m1 a0 20 (x4 + (2 : Int32)) (ga m1 a0 20 (x4 + (3 : Int32)) (ga m1 a0 20 (x4 + (4 : Int32)) (bI (Mo_look d a2 (gI m1 a0 (x4 + (1 : Int32)).toNatClampNeg) (gI m1 a0 (x4 + (2 : Int32)).toNatClampNeg) (gI m1 a0 (x4 + (3 : Int32)).toNatClampNeg) (gI m1 a0 (x4 + (4 : Int32)).toNatClampNeg) m1) fun v4 m3 => if v2 = v4 then (La_law_1818 (d + 1) a0 a1 a2 a3 x4 w5 w6 m3) else (yI (0 : Int32) m3))))))))) := by
  unfold La_law_463
  refine (x_aload1 D309_463 rfl).trans ?_
  refine (x_aload1 D309_464 rfl).trans ?_
  refine (x_iload2 D309_465 rfl).trans ?_
  refine (x_iconst D309_467 (k := 1) (by decide)).trans ?_
  refine (x_iadd D309_468).trans ?_
  refine (x_iaload D309_469).trans (ga_c ?_)
  refine (x_aload1 D309_470 rfl).trans ?_
  refine (x_iload2 D309_471 rfl).trans ?_
  refine (x_iconst D309_473 (k := 2) (by decide)).trans ?_
  refine (x_iadd D309_474).trans ?_
  refine (x_iaload D309_475).trans (ga_c ?_)
  refine (x_aload1 D309_476 rfl).trans ?_
  refine (x_iload2 D309_477 rfl).trans ?_
  refine (x_iconst D309_479 (k := 3) (by decide)).trans ?_
  refine (x_iadd D309_480).trans ?_
  refine (x_iaload D309_481).trans (ga_c ?_)
  refine (x_aload1 D309_482 rfl).trans ?_
  refine (x_iload2 D309_483 rfl).trans ?_
  refine (x_iconst D309_485 (k := 4) (by decide)).trans ?_
  refine (x_iadd D309_486).trans ?_
  refine (x_iaload D309_487).trans (ga_c ?_)
  refine (x_cI D309_488 M88 (fun z => by cases z) (I88 _ _ _ _ _) rfl rfl (ok_i M88 (I88 _ _ _ _ _) rfl rfl h_a1)).trans (bI_c fun v2 m1 => ?_)
  refine (x_aload1 D309_491 rfl).trans ?_
  refine (x_aload1 D309_492 rfl).trans ?_
  refine (x_iload2 D309_493 rfl).trans ?_
  refine (x_iconst D309_495 (k := 1) (by decide)).trans ?_
  refine (x_iadd D309_496).trans ?_
  refine (x_iaload D309_497).trans (ga_c ?_)
  refine (x_aload1 D309_498 rfl).trans ?_
  refine (x_iload2 D309_499 rfl).trans ?_
  refine (x_iconst D309_501 (k := 2) (by decide)).trans ?_
  refine (x_iadd D309_502).trans ?_
  refine (x_iaload D309_503).trans (ga_c ?_)
  refine (x_aload1 D309_504 rfl).trans ?_
  refine (x_iload2 D309_505 rfl).trans ?_
  refine (x_iconst D309_507 (k := 3) (by decide)).trans ?_
  refine (x_iadd D309_508).trans ?_
  refine (x_iaload D309_509).trans (ga_c ?_)
  refine (x_aload1 D309_510 rfl).trans ?_
  refine (x_iload2 D309_511 rfl).trans ?_
  refine (x_iconst D309_513 (k := 4) (by decide)).trans ?_
  refine (x_iadd D309_514).trans ?_
  refine (x_iaload D309_515).trans (ga_c ?_)
  refine (x_cI D309_516 M251 (fun z => by cases z) (I251 _ _ _ _ _) rfl rfl (ok_i M251 (I251 _ _ _ _ _) rfl rfl h_a2)).trans (bI_c fun v4 m3 => ?_)
  refine (x_ceq D309_519).trans (i_c ?_ ?_)
  · rfl
  · refine (x_iconst D309_522 (k := 0) (by decide)).trans ?_
    exact (x_bret D309_523 M309.2.2.1).trans yB0
theorem La_law_524_e (d : Nat) (a0 : Nat) (a1 : Nat) (a2 : Nat) (a3 : Nat) (x4 : Int32) (w5 : Value) (w6 : Value) (m : eM) (h_a1 : kd a1 = 9) (h_a2 : kd a2 = 10) : La_law_524 (d + 1) a0 a1 a2 a3 x4 w5 w6 m = ga m a0 20 (x4 + (1 : Int32)) (ga m a0 20 (x4 + (2 : Int32)) (bI (LC_watch d a1 (gI m a0 (x4 + (1 : Int32)).toNatClampNeg) (gI m a0 (x4 + (2 : Int32)).toNatClampNeg) m) fun v2 m1 => ga m1 a0 20 (x4 + (1 : Int32)) (ga m1 a0 20 (x4 + (2 : Int32)) (bI (Mo_watch d a2 (gI m1 a0 (x4 + (1 : Int32)).toNatClampNeg) (gI m1 a0 (x4 + (2 : Int32)).toNatClampNeg) m1) fun v4 m3 => if v2 = v4 then (La_law_1818 (d + 1) a0 a1 a2 a3 x4 w5 w6 m3) else (yI (0 : Int32) m3))))) := by
  unfold La_law_524
  refine (x_aload1 D309_524 rfl).trans ?_
  refine (x_aload1 D309_525 rfl).trans ?_
  refine (x_iload2 D309_526 rfl).trans ?_
  refine (x_iconst D309_528 (k := 1) (by decide)).trans ?_
  refine (x_iadd D309_529).trans ?_
  refine (x_iaload D309_530).trans (ga_c ?_)
  refine (x_aload1 D309_531 rfl).trans ?_
  refine (x_iload2 D309_532 rfl).trans ?_
  refine (x_iconst D309_534 (k := 2) (by decide)).trans ?_
  refine (x_iadd D309_535).trans ?_
  refine (x_iaload D309_536).trans (ga_c ?_)
  refine (x_cI D309_537 M93 (fun z => by cases z) (I93 _ _ _) rfl rfl (ok_i M93 (I93 _ _ _) rfl rfl h_a1)).trans (bI_c fun v2 m1 => ?_)
  refine (x_aload1 D309_540 rfl).trans ?_
  refine (x_aload1 D309_541 rfl).trans ?_
  refine (x_iload2 D309_542 rfl).trans ?_
  refine (x_iconst D309_544 (k := 1) (by decide)).trans ?_
  refine (x_iadd D309_545).trans ?_
  refine (x_iaload D309_546).trans (ga_c ?_)
  refine (x_aload1 D309_547 rfl).trans ?_
  refine (x_iload2 D309_548 rfl).trans ?_
  refine (x_iconst D309_550 (k := 2) (by decide)).trans ?_
  refine (x_iadd D309_551).trans ?_
  refine (x_iaload D309_552).trans (ga_c ?_)
  refine (x_cI D309_553 M283 (fun z => by cases z) (I283 _ _ _) rfl rfl (ok_i M283 (I283 _ _ _) rfl rfl h_a2)).trans (bI_c fun v4 m3 => ?_)
  refine (x_ceq D309_556).trans (i_c ?_ ?_)
  · rfl
  · refine (x_iconst D309_559 (k := 0) (by decide)).trans ?_
    exact (x_bret D309_560 M309.2.2.1).trans yB0
theorem La_law_561_e (d : Nat) (a0 : Nat) (a1 : Nat) (a2 : Nat) (a3 : Nat) (x4 : Int32) (w5 : Value) (w6 : Value) (m : eM) (h_a1 : kd a1 = 9) (h_a2 : kd a2 = 10) : La_law_561 (d + 1) a0 a1 a2 a3 x4 w5 w6 m = ga m a0 20 (x4 + (1 : Int32)) (bI (LC_world d a1 (gI m a0 (x4 + (1 : Int32)).toNatClampNeg) m) fun v2 m1 => ga m1 a0 20 (x4 + (1 : Int32)) (bI (Mo_world d a2 (gI m1 a0 (x4 + (1 : Int32)).toNatClampNeg) m1) fun v4 m3 => if v2 = v4 then (La_law_1818 (d + 1) a0 a1 a2 a3 x4 w5 w6 m3) else (yI (0 : Int32) m3))) := by
  unfold La_law_561
  refine (x_aload1 D309_561 rfl).trans ?_
  refine (x_aload1 D309_562 rfl).trans ?_
  refine (x_iload2 D309_563 rfl).trans ?_
  refine (x_iconst D309_565 (k := 1) (by decide)).trans ?_
  refine (x_iadd D309_566).trans ?_
  refine (x_iaload D309_567).trans (ga_c ?_)
  refine (x_cI D309_568 M94 (fun z => by cases z) (I94 _ _) rfl rfl (ok_i M94 (I94 _ _) rfl rfl h_a1)).trans (bI_c fun v2 m1 => ?_)
  refine (x_aload1 D309_571 rfl).trans ?_
  refine (x_aload1 D309_572 rfl).trans ?_
  refine (x_iload2 D309_573 rfl).trans ?_
  refine (x_iconst D309_575 (k := 1) (by decide)).trans ?_
  refine (x_iadd D309_576).trans ?_
  refine (x_iaload D309_577).trans (ga_c ?_)
  refine (x_cI D309_578 M253 (fun z => by cases z) (I253 _ _) rfl rfl (ok_i M253 (I253 _ _) rfl rfl h_a2)).trans (bI_c fun v4 m3 => ?_)
  refine (x_ceq D309_581).trans (i_c ?_ ?_)
  · rfl
  · refine (x_iconst D309_584 (k := 0) (by decide)).trans ?_
    exact (x_bret D309_585 M309.2.2.1).trans yB0
theorem La_law_586_e (d : Nat) (a0 : Nat) (a1 : Nat) (a2 : Nat) (a3 : Nat) (x4 : Int32) (w5 : Value) (w6 : Value) (m : eM) (h_a1 : kd a1 = 9) (h_a2 : kd a2 = 10) : La_law_586 (d + 1) a0 a1 a2 a3 x4 w5 w6 m = ga m a0 20 (x4 + (1 : Int32)) (ga m a0 20 (x4 + (2 : Int32)) (bI (LC_lie d a1 (gI m a0 (x4 + (1 : Int32)).toNatClampNeg) (gI m a0 (x4 + (2 : Int32)).toNatClampNeg) m) fun v2 m1 => ga m1 a0 20 (x4 + (1 : Int32)) (ga m1 a0 20 (x4 + (2 : Int32)) (bI (Mo_lie d a2 (gI m1 a0 (x4 + (1 : Int32)).toNatClampNeg) (gI m1 a0 (x4 + (2 : Int32)).toNatClampNeg) m1) fun v4 m3 => if v2 = v4 then (La_law_1818 (d + 1) a0 a1 a2 a3 x4 w5 w6 m3) else (yI (0 : Int32) m3))))) := by
  unfold La_law_586
  refine (x_aload1 D309_586 rfl).trans ?_
  refine (x_aload1 D309_587 rfl).trans ?_
  refine (x_iload2 D309_588 rfl).trans ?_
  refine (x_iconst D309_590 (k := 1) (by decide)).trans ?_
  refine (x_iadd D309_591).trans ?_
  refine (x_iaload D309_592).trans (ga_c ?_)
  refine (x_aload1 D309_593 rfl).trans ?_
  refine (x_iload2 D309_594 rfl).trans ?_
  refine (x_iconst D309_596 (k := 2) (by decide)).trans ?_
  refine (x_iadd D309_597).trans ?_
  refine (x_iaload D309_598).trans (ga_c ?_)
  refine (x_cI D309_599 M114 (fun z => by cases z) (I114 _ _ _) rfl rfl (ok_i M114 (I114 _ _ _) rfl rfl h_a1)).trans (bI_c fun v2 m1 => ?_)
  refine (x_aload1 D309_602 rfl).trans ?_
  refine (x_aload1 D309_603 rfl).trans ?_
  refine (x_iload2 D309_604 rfl).trans ?_
  refine (x_iconst D309_606 (k := 1) (by decide)).trans ?_
  refine (x_iadd D309_607).trans ?_
  refine (x_iaload D309_608).trans (ga_c ?_)
  refine (x_aload1 D309_609 rfl).trans ?_
  refine (x_iload2 D309_610 rfl).trans ?_
  refine (x_iconst D309_612 (k := 2) (by decide)).trans ?_
  refine (x_iadd D309_613).trans ?_
  refine (x_iaload D309_614).trans (ga_c ?_)
  refine (x_cI D309_615 M242 (fun z => by cases z) (I242 _ _ _) rfl rfl (ok_i M242 (I242 _ _ _) rfl rfl h_a2)).trans (bI_c fun v4 m3 => ?_)
  refine (x_ceq D309_618).trans (i_c ?_ ?_)
  · rfl
  · refine (x_iconst D309_621 (k := 0) (by decide)).trans ?_
    exact (x_bret D309_622 M309.2.2.1).trans yB0
theorem La_law_623_e (d : Nat) (a0 : Nat) (a1 : Nat) (a2 : Nat) (a3 : Nat) (x4 : Int32) (w5 : Value) (w6 : Value) (m : eM) (h_a1 : kd a1 = 9) (h_a2 : kd a2 = 10) : La_law_623 (d + 1) a0 a1 a2 a3 x4 w5 w6 m = ga m a0 20 (x4 + (1 : Int32)) (ga m a0 20 (x4 + (2 : Int32)) (ga m a0 20 (x4 + (3 : Int32)) (bI (LC_points d a1 (gI m a0 (x4 + (1 : Int32)).toNatClampNeg) (gI m a0 (x4 + (2 : Int32)).toNatClampNeg) (gI m a0 (x4 + (3 : Int32)).toNatClampNeg) m) fun v2 m1 => ga m1 a0 20 (x4 + (1 : Int32)) (ga m1 a0 20 (x4 + (2 : Int32)) (ga m1 a0 20 (x4 + (3 : Int32)) (bI (Mo_points d a2 (gI m1 a0 (x4 + (1 : Int32)).toNatClampNeg) (gI m1 a0 (x4 + (2 : Int32)).toNatClampNeg) (gI m1 a0 (x4 + (3 : Int32)).toNatClampNeg) m1) fun v4 m3 => if v2 = v4 then (La_law_1818 (d + 1) a0 a1 a2 a3 x4 w5 w6 m3) else (yI (0 : Int32) m3))))))) := by
  unfold La_law_623
  refine (x_aload1 D309_623 rfl).trans ?_
  refine (x_aload1 D309_624 rfl).trans ?_
  refine (x_iload2 D309_625 rfl).trans ?_
  refine (x_iconst D309_627 (k := 1) (by decide)).trans ?_
  refine (x_iadd D309_628).trans ?_
  refine (x_iaload D309_629).trans (ga_c ?_)
  refine (x_aload1 D309_630 rfl).trans ?_
  refine (x_iload2 D309_631 rfl).trans ?_
  refine (x_iconst D309_633 (k := 2) (by decide)).trans ?_
  refine (x_iadd D309_634).trans ?_
  refine (x_iaload D309_635).trans (ga_c ?_)
  refine (x_aload1 D309_636 rfl).trans ?_
  refine (x_iload2 D309_637 rfl).trans ?_
  refine (x_iconst D309_639 (k := 3) (by decide)).trans ?_
  refine (x_iadd D309_640).trans ?_
  refine (x_iaload D309_641).trans (ga_c ?_)
  refine (x_cI D309_642 M116 (fun z => by cases z) (I116 _ _ _ _) rfl rfl (ok_i M116 (I116 _ _ _ _) rfl rfl h_a1)).trans (bI_c fun v2 m1 => ?_)
  refine (x_aload1 D309_645 rfl).trans ?_
  refine (x_aload1 D309_646 rfl).trans ?_
  refine (x_iload2 D309_647 rfl).trans ?_
  refine (x_iconst D309_649 (k := 1) (by decide)).trans ?_
  refine (x_iadd D309_650).trans ?_
  refine (x_iaload D309_651).trans (ga_c ?_)
  refine (x_aload1 D309_652 rfl).trans ?_
  refine (x_iload2 D309_653 rfl).trans ?_
  refine (x_iconst D309_655 (k := 2) (by decide)).trans ?_
  refine (x_iadd D309_656).trans ?_
  refine (x_iaload D309_657).trans (ga_c ?_)
  refine (x_aload1 D309_658 rfl).trans ?_
  refine (x_iload2 D309_659 rfl).trans ?_
  refine (x_iconst D309_661 (k := 3) (by decide)).trans ?_
  refine (x_iadd D309_662).trans ?_
  refine (x_iaload D309_663).trans (ga_c ?_)
  refine (x_cI D309_664 M246 (fun z => by cases z) (I246 _ _ _ _) rfl rfl (ok_i M246 (I246 _ _ _ _) rfl rfl h_a2)).trans (bI_c fun v4 m3 => ?_)
  refine (x_ceq D309_667).trans (i_c ?_ ?_)
  · rfl
  · refine (x_iconst D309_670 (k := 0) (by decide)).trans ?_
    exact (x_bret D309_671 M309.2.2.1).trans yB0
theorem La_law_672_e (d : Nat) (a0 : Nat) (a1 : Nat) (a2 : Nat) (a3 : Nat) (x4 : Int32) (w5 : Value) (w6 : Value) (m : eM) (h_a1 : kd a1 = 9) (h_a2 : kd a2 = 10) : La_law_672 (d + 1) a0 a1 a2 a3 x4 w5 w6 m = ga m a0 20 (x4 + (1 : Int32)) (bI (LC_worlds d a1 (gI m a0 (x4 + (1 : Int32)).toNatClampNeg) m) fun v2 m1 => ga m1 a0 20 (x4 + (1 : Int32)) (bI (Mo_worlds d a2 (gI m1 a0 (x4 + (1 : Int32)).toNatClampNeg) m1) fun v4 m3 => if v2 = v4 then (La_law_1818 (d + 1) a0 a1 a2 a3 x4 w5 w6 m3) else (yI (0 : Int32) m3))) := by
  unfold La_law_672
  refine (x_aload1 D309_672 rfl).trans ?_
  refine (x_aload1 D309_673 rfl).trans ?_
  refine (x_iload2 D309_674 rfl).trans ?_
  refine (x_iconst D309_676 (k := 1) (by decide)).trans ?_
  refine (x_iadd D309_677).trans ?_
  refine (x_iaload D309_678).trans (ga_c ?_)
  refine (x_cI D309_679 M118 (fun z => by cases z) (I118 _ _) rfl rfl (ok_i M118 (I118 _ _) rfl rfl h_a1)).trans (bI_c fun v2 m1 => ?_)
  refine (x_aload1 D309_682 rfl).trans ?_
  refine (x_aload1 D309_683 rfl).trans ?_
  refine (x_iload2 D309_684 rfl).trans ?_
  refine (x_iconst D309_686 (k := 1) (by decide)).trans ?_
  refine (x_iadd D309_687).trans ?_
  refine (x_iaload D309_688).trans (ga_c ?_)
  refine (x_cI D309_689 M258 (fun z => by cases z) (I258 _ _) rfl rfl (ok_i M258 (I258 _ _) rfl rfl h_a2)).trans (bI_c fun v4 m3 => ?_)
  refine (x_ceq D309_692).trans (i_c ?_ ?_)
  · rfl
  · refine (x_iconst D309_695 (k := 0) (by decide)).trans ?_
    exact (x_bret D309_696 M309.2.2.1).trans yB0
theorem La_law_697_e (d : Nat) (a0 : Nat) (a1 : Nat) (a2 : Nat) (a3 : Nat) (x4 : Int32) (w5 : Value) (w6 : Value) (m : eM) (h_a1 : kd a1 = 9) (h_a2 : kd a2 = 10) : La_law_697 (d + 1) a0 a1 a2 a3 x4 w5 w6 m = ga m a0 20 (x4 + (1 : Int32)) (bI (LC_sureFact d a1 (gI m a0 (x4 + (1 : Int32)).toNatClampNeg) m) fun v2 m1 => ga m1 a0 20 (x4 + (1 : Int32)) (bI (Mo_sureFact d a2 (gI m1 a0 (x4 + (1 : Int32)).toNatClampNeg) m1) fun v4 m3 => if v2 = v4 then (La_law_1818 (d + 1) a0 a1 a2 a3 x4 w5 w6 m3) else (yI (0 : Int32) m3))) := by
  unfold La_law_697
  refine (x_aload1 D309_697 rfl).trans ?_
  refine (x_aload1 D309_698 rfl).trans ?_
  refine (x_iload2 D309_699 rfl).trans ?_
  refine (x_iconst D309_701 (k := 1) (by decide)).trans ?_
  refine (x_iadd D309_702).trans ?_
  refine (x_iaload D309_703).trans (ga_c ?_)
  refine (x_cI D309_704 M121 (fun z => by cases z) (I121 _ _) rfl rfl (ok_i M121 (I121 _ _) rfl rfl h_a1)).trans (bI_c fun v2 m1 => ?_)
  refine (x_aload1 D309_707 rfl).trans ?_
  refine (x_aload1 D309_708 rfl).trans ?_
  refine (x_iload2 D309_709 rfl).trans ?_
  refine (x_iconst D309_711 (k := 1) (by decide)).trans ?_
  refine (x_iadd D309_712).trans ?_
  refine (x_iaload D309_713).trans (ga_c ?_)
  refine (x_cI D309_714 M262 (fun z => by cases z) (I262 _ _) rfl rfl (ok_i M262 (I262 _ _) rfl rfl h_a2)).trans (bI_c fun v4 m3 => ?_)
  refine (x_ceq D309_717).trans (i_c ?_ ?_)
  · rfl
  · refine (x_iconst D309_720 (k := 0) (by decide)).trans ?_
    exact (x_bret D309_721 M309.2.2.1).trans yB0
theorem La_law_722_e (d : Nat) (a0 : Nat) (a1 : Nat) (a2 : Nat) (a3 : Nat) (x4 : Int32) (w5 : Value) (w6 : Value) (m : eM) (h_a1 : kd a1 = 9) (h_a2 : kd a2 = 10) : La_law_722 (d + 1) a0 a1 a2 a3 x4 w5 w6 m = ga m a0 20 (x4 + (1 : Int32)) (bI (LC_sure d a1 (gI m a0 (x4 + (1 : Int32)).toNatClampNeg) m) fun v2 m1 => ga m1 a0 20 (x4 + (1 : Int32)) (bI (Mo_sure d a2 (gI m1 a0 (x4 + (1 : Int32)).toNatClampNeg) m1) fun v4 m3 => if v2 = v4 then (La_law_1818 (d + 1) a0 a1 a2 a3 x4 w5 w6 m3) else (yI (0 : Int32) m3))) := by
  unfold La_law_722
  refine (x_aload1 D309_722 rfl).trans ?_
  refine (x_aload1 D309_723 rfl).trans ?_
  refine (x_iload2 D309_724 rfl).trans ?_
  refine (x_iconst D309_726 (k := 1) (by decide)).trans ?_
  refine (x_iadd D309_727).trans ?_
  refine (x_iaload D309_728).trans (ga_c ?_)
  refine (x_cI D309_729 M123 (fun z => by cases z) (I123 _ _) rfl rfl (ok_i M123 (I123 _ _) rfl rfl h_a1)).trans (bI_c fun v2 m1 => ?_)
  refine (x_aload1 D309_732 rfl).trans ?_
  refine (x_aload1 D309_733 rfl).trans ?_
  refine (x_iload2 D309_734 rfl).trans ?_
  refine (x_iconst D309_736 (k := 1) (by decide)).trans ?_
  refine (x_iadd D309_737).trans ?_
  refine (x_iaload D309_738).trans (ga_c ?_)
  refine (x_cI D309_739 M264 (fun z => by cases z) (I264 _ _) rfl rfl (ok_i M264 (I264 _ _) rfl rfl h_a2)).trans (bI_c fun v4 m3 => ?_)
  refine (x_ceq D309_742).trans (i_c ?_ ?_)
  · rfl
  · refine (x_iconst D309_745 (k := 0) (by decide)).trans ?_
    exact (x_bret D309_746 M309.2.2.1).trans yB0
theorem La_law_747_e (d : Nat) (a0 : Nat) (a1 : Nat) (a2 : Nat) (a3 : Nat) (x4 : Int32) (w5 : Value) (w6 : Value) (m : eM) (h_a1 : kd a1 = 9) (h_a2 : kd a2 = 10) : La_law_747 (d + 1) a0 a1 a2 a3 x4 w5 w6 m = ga m a0 20 (x4 + (1 : Int32)) (ga m a0 20 (x4 + (2 : Int32)) (bL (LC_odds d a1 (gI m a0 (x4 + (1 : Int32)).toNatClampNeg) (gI m a0 (x4 + (2 : Int32)).toNatClampNeg) m) fun v2 m1 => ga m1 a0 20 (x4 + (1 : Int32)) (ga m1 a0 20 (x4 + (2 : Int32)) (bL (Mo_odds d a2 (gI m1 a0 (x4 + (1 : Int32)).toNatClampNeg) (gI m1 a0 (x4 + (2 : Int32)).toNatClampNeg) m1) fun v4 m3 => if (lg_cmp v2 v4) = 0 then (La_law_1818 (d + 1) a0 a1 a2 a3 x4 w5 w6 m3) else (yI (0 : Int32) m3))))) := by
  unfold La_law_747
  refine (x_aload1 D309_747 rfl).trans ?_
  refine (x_aload1 D309_748 rfl).trans ?_
  refine (x_iload2 D309_749 rfl).trans ?_
  refine (x_iconst D309_751 (k := 1) (by decide)).trans ?_
  refine (x_iadd D309_752).trans ?_
  refine (x_iaload D309_753).trans (ga_c ?_)
  refine (x_aload1 D309_754 rfl).trans ?_
  refine (x_iload2 D309_755 rfl).trans ?_
  refine (x_iconst D309_757 (k := 2) (by decide)).trans ?_
  refine (x_iadd D309_758).trans ?_
  refine (x_iaload D309_759).trans (ga_c ?_)
  refine (x_cL D309_760 M124  (I124 _ _ _) rfl rfl (ok_i M124 (I124 _ _ _) rfl rfl h_a1)).trans (bL_c fun v2 m1 => ?_)
  refine (x_aload1 D309_763 rfl).trans ?_
  refine (x_aload1 D309_764 rfl).trans ?_
  refine (x_iload2 D309_765 rfl).trans ?_
  refine (x_iconst D309_767 (k := 1) (by decide)).trans ?_
  refine (x_iadd D309_768).trans ?_
  refine (x_iaload D309_769).trans (ga_c ?_)
  refine (x_aload1 D309_770 rfl).trans ?_
  refine (x_iload2 D309_771 rfl).trans ?_
  refine (x_iconst D309_773 (k := 2) (by decide)).trans ?_
  refine (x_iadd D309_774).trans ?_
  refine (x_iaload D309_775).trans (ga_c ?_)
  refine (x_cL D309_776 M265  (I265 _ _ _) rfl rfl (ok_i M265 (I265 _ _ _) rfl rfl h_a2)).trans (bL_c fun v4 m3 => ?_)
  refine (x_lcmp D309_779).trans ?_
  refine (x_ifeq D309_780).trans (i_c ?_ ?_)
  · rfl
  · refine (x_iconst D309_783 (k := 0) (by decide)).trans ?_
    exact (x_bret D309_784 M309.2.2.1).trans yB0
theorem La_law_785_e (d : Nat) (a0 : Nat) (a1 : Nat) (a2 : Nat) (a3 : Nat) (x4 : Int32) (w5 : Value) (w6 : Value) (m : eM) (h_a1 : kd a1 = 9) (h_a2 : kd a2 = 10) : La_law_785 (d + 1) a0 a1 a2 a3 x4 w5 w6 m = ga m a0 20 (x4 + (1 : Int32)) (ga m a0 20 (x4 + (2 : Int32)) (bI (LC_proof d a1 (gI m a0 (x4 + (1 : Int32)).toNatClampNeg) (gI m a0 (x4 + (2 : Int32)).toNatClampNeg) m) fun v2 m1 => ga m1 a0 20 (x4 + (1 : Int32)) (ga m1 a0 20 (x4 + (2 : Int32)) (bI (Mo_proof d a2 (gI m1 a0 (x4 + (1 : Int32)).toNatClampNeg) (gI m1 a0 (x4 + (2 : Int32)).toNatClampNeg) m1) fun v4 m3 => if v2 = v4 then (La_law_1818 (d + 1) a0 a1 a2 a3 x4 w5 w6 m3) else (yI (0 : Int32) m3))))) := by
  unfold La_law_785
  refine (x_aload1 D309_785 rfl).trans ?_
  refine (x_aload1 D309_786 rfl).trans ?_
  refine (x_iload2 D309_787 rfl).trans ?_
  refine (x_iconst D309_789 (k := 1) (by decide)).trans ?_
  refine (x_iadd D309_790).trans ?_
  refine (x_iaload D309_791).trans (ga_c ?_)
  refine (x_aload1 D309_792 rfl).trans ?_
  refine (x_iload2 D309_793 rfl).trans ?_
  refine (x_iconst D309_795 (k := 2) (by decide)).trans ?_
  refine (x_iadd D309_796).trans ?_
  refine (x_iaload D309_797).trans (ga_c ?_)
  refine (x_cI D309_798 M129 (fun z => by cases z) (I129 _ _ _) rfl rfl (ok_i M129 (I129 _ _ _) rfl rfl h_a1)).trans (bI_c fun v2 m1 => ?_)
  refine (x_aload1 D309_801 rfl).trans ?_
  refine (x_aload1 D309_802 rfl).trans ?_
  refine (x_iload2 D309_803 rfl).trans ?_
  refine (x_iconst D309_805 (k := 1) (by decide)).trans ?_
  refine (x_iadd D309_806).trans ?_
  refine (x_iaload D309_807).trans (ga_c ?_)
  refine (x_aload1 D309_808 rfl).trans ?_
  refine (x_iload2 D309_809 rfl).trans ?_
  refine (x_iconst D309_811 (k := 2) (by decide)).trans ?_
  refine (x_iadd D309_812).trans ?_
  refine (x_iaload D309_813).trans (ga_c ?_)
  refine (x_cI D309_814 M269 (fun z => by cases z) (I269 _ _ _) rfl rfl (ok_i M269 (I269 _ _ _) rfl rfl h_a2)).trans (bI_c fun v4 m3 => ?_)
  refine (x_ceq D309_817).trans (i_c ?_ ?_)
  · rfl
  · refine (x_iconst D309_820 (k := 0) (by decide)).trans ?_
    exact (x_bret D309_821 M309.2.2.1).trans yB0
theorem La_law_822_e (d : Nat) (a0 : Nat) (a1 : Nat) (a2 : Nat) (a3 : Nat) (x4 : Int32) (w5 : Value) (w6 : Value) (m : eM) (h_a1 : kd a1 = 9) (h_a2 : kd a2 = 10) : La_law_822 (d + 1) a0 a1 a2 a3 x4 w5 w6 m = ga m a0 20 (x4 + (1 : Int32)) (bI (LC_clash d a1 (gI m a0 (x4 + (1 : Int32)).toNatClampNeg) m) fun v2 m1 => ga m1 a0 20 (x4 + (1 : Int32)) (bI (Mo_clash d a2 (gI m1 a0 (x4 + (1 : Int32)).toNatClampNeg) m1) fun v4 m3 => if v2 = v4 then (La_law_1818 (d + 1) a0 a1 a2 a3 x4 w5 w6 m3) else (yI (0 : Int32) m3))) := by
  unfold La_law_822
  refine (x_aload1 D309_822 rfl).trans ?_
  refine (x_aload1 D309_823 rfl).trans ?_
  refine (x_iload2 D309_824 rfl).trans ?_
  refine (x_iconst D309_826 (k := 1) (by decide)).trans ?_
  refine (x_iadd D309_827).trans ?_
  refine (x_iaload D309_828).trans (ga_c ?_)
  refine (x_cI D309_829 M136 (fun z => by cases z) (I136 _ _) rfl rfl (ok_i M136 (I136 _ _) rfl rfl h_a1)).trans (bI_c fun v2 m1 => ?_)
  refine (x_aload1 D309_832 rfl).trans ?_
  refine (x_aload1 D309_833 rfl).trans ?_
  refine (x_iload2 D309_834 rfl).trans ?_
  refine (x_iconst D309_836 (k := 1) (by decide)).trans ?_
  refine (x_iadd D309_837).trans ?_
  refine (x_iaload D309_838).trans (ga_c ?_)
  refine (x_cI D309_839 M271 (fun z => by cases z) (I271 _ _) rfl rfl (ok_i M271 (I271 _ _) rfl rfl h_a2)).trans (bI_c fun v4 m3 => ?_)
  refine (x_ceq D309_842).trans (i_c ?_ ?_)
  · rfl
  · refine (x_iconst D309_845 (k := 0) (by decide)).trans ?_
    exact (x_bret D309_846 M309.2.2.1).trans yB0
theorem La_law_847_e (d : Nat) (a0 : Nat) (a1 : Nat) (a2 : Nat) (a3 : Nat) (x4 : Int32) (w5 : Value) (w6 : Value) (m : eM) (h_a1 : kd a1 = 9) (h_a2 : kd a2 = 10) : La_law_847 (d + 1) a0 a1 a2 a3 x4 w5 w6 m = ga m a0 20 (x4 + (1 : Int32)) (ga m a0 20 (x4 + (2 : Int32)) (ga m a0 20 (x4 + (3 : Int32)) (ga m a0 20 (x4 + (4 : Int32)) (bI (LC_next d a1 (gI m a0 (x4 + (1 : Int32)).toNatClampNeg) (gI m a0 (x4 + (2 : Int32)).toNatClampNeg) (gI m a0 (x4 + (3 : Int32)).toNatClampNeg) (gI m a0 (x4 + (4 : Int32)).toNatClampNeg) m) fun v2 m1 => ga m1 a0 20 (x4 + (1 : Int32)) (ga m1 a0 20 (x4 + (2 : Int32)) (ga m1 a0 20 (x4 + (3 : Int32)) (ga m1 a0 20 (x4 + (4 : Int32)) (bI (Mo_next d a2 (gI m1 a0 (x4 + (1 : Int32)).toNatClampNeg) (gI m1 a0 (x4 + (2 : Int32)).toNatClampNeg) (gI m1 a0 (x4 + (3 : Int32)).toNatClampNeg) (gI m1 a0 (x4 + (4 : Int32)).toNatClampNeg) m1) fun v4 m3 => if v2 = v4 then (La_law_1818 (d + 1) a0 a1 a2 a3 x4 w5 w6 m3) else (yI (0 : Int32) m3))))))))) := by
  unfold La_law_847
  refine (x_aload1 D309_847 rfl).trans ?_
  refine (x_aload1 D309_848 rfl).trans ?_
  refine (x_iload2 D309_849 rfl).trans ?_
  refine (x_iconst D309_851 (k := 1) (by decide)).trans ?_
  refine (x_iadd D309_852).trans ?_
  refine (x_iaload D309_853).trans (ga_c ?_)
  refine (x_aload1 D309_854 rfl).trans ?_
  refine (x_iload2 D309_855 rfl).trans ?_
  refine (x_iconst D309_857 (k := 2) (by decide)).trans ?_
  refine (x_iadd D309_858).trans ?_
  refine (x_iaload D309_859).trans (ga_c ?_)
  refine (x_aload1 D309_860 rfl).trans ?_
  refine (x_iload2 D309_861 rfl).trans ?_
  refine (x_iconst D309_863 (k := 3) (by decide)).trans ?_
  refine (x_iadd D309_864).trans ?_
  refine (x_iaload D309_865).trans (ga_c ?_)
  refine (x_aload1 D309_866 rfl).trans ?_
  refine (x_iload2 D309_867 rfl).trans ?_
  refine (x_iconst D309_869 (k := 4) (by decide)).trans ?_
  refine (x_iadd D309_870).trans ?_
  refine (x_iaload D309_871).trans (ga_c ?_)
  refine (x_cI D309_872 M137 (fun z => by cases z) (I137 _ _ _ _ _) rfl rfl (ok_i M137 (I137 _ _ _ _ _) rfl rfl h_a1)).trans (bI_c fun v2 m1 => ?_)
  refine (x_aload1 D309_875 rfl).trans ?_
  refine (x_aload1 D309_876 rfl).trans ?_
  refine (x_iload2 D309_877 rfl).trans ?_
  refine (x_iconst D309_879 (k := 1) (by decide)).trans ?_
  refine (x_iadd D309_880).trans ?_
  refine (x_iaload D309_881).trans (ga_c ?_)
  refine (x_aload1 D309_882 rfl).trans ?_
  refine (x_iload2 D309_883 rfl).trans ?_
  refine (x_iconst D309_885 (k := 2) (by decide)).trans ?_
  refine (x_iadd D309_886).trans ?_
  refine (x_iaload D309_887).trans (ga_c ?_)
  refine (x_aload1 D309_888 rfl).trans ?_
  refine (x_iload2 D309_889 rfl).trans ?_
  refine (x_iconst D309_891 (k := 3) (by decide)).trans ?_
  refine (x_iadd D309_892).trans ?_
  refine (x_iaload D309_893).trans (ga_c ?_)
  refine (x_aload1 D309_894 rfl).trans ?_
  refine (x_iload2 D309_895 rfl).trans ?_
  refine (x_iconst D309_897 (k := 4) (by decide)).trans ?_
  refine (x_iadd D309_898).trans ?_
  refine (x_iaload D309_899).trans (ga_c ?_)
  refine (x_cI D309_900 M272 (fun z => by cases z) (I272 _ _ _ _ _) rfl rfl (ok_i M272 (I272 _ _ _ _ _) rfl rfl h_a2)).trans (bI_c fun v4 m3 => ?_)
  refine (x_ceq D309_903).trans (i_c ?_ ?_)
  · rfl
  · refine (x_iconst D309_906 (k := 0) (by decide)).trans ?_
    exact (x_bret D309_907 M309.2.2.1).trans yB0
theorem La_law_908_e (d : Nat) (a0 : Nat) (a1 : Nat) (a2 : Nat) (a3 : Nat) (x4 : Int32) (w5 : Value) (w6 : Value) (m : eM) (h_a1 : kd a1 = 9) (h_a2 : kd a2 = 10) : La_law_908 (d + 1) a0 a1 a2 a3 x4 w5 w6 m = ga m a0 20 (x4 + (1 : Int32)) (ga m a0 20 (x4 + (2 : Int32)) (ga m a0 20 (x4 + (3 : Int32)) (ga m a0 20 (x4 + (4 : Int32)) (bI (LC_fog d a1 (gI m a0 (x4 + (1 : Int32)).toNatClampNeg) (gI m a0 (x4 + (2 : Int32)).toNatClampNeg) (gI m a0 (x4 + (3 : Int32)).toNatClampNeg) (gI m a0 (x4 + (4 : Int32)).toNatClampNeg) m) fun v2 m1 => ga m1 a0 20 (x4 + (1 : Int32)) (ga m1 a0 20 (x4 + (2 : Int32)) (ga m1 a0 20 (x4 + (3 : Int32)) (ga m1 a0 20 (x4 + (4 : Int32)) (bI (Mo_fog d a2 (gI m1 a0 (x4 + (1 : Int32)).toNatClampNeg) (gI m1 a0 (x4 + (2 : Int32)).toNatClampNeg) (gI m1 a0 (x4 + (3 : Int32)).toNatClampNeg) (gI m1 a0 (x4 + (4 : Int32)).toNatClampNeg) m1) fun v4 m3 => if v2 = v4 then (La_law_1818 (d + 1) a0 a1 a2 a3 x4 w5 w6 m3) else (yI (0 : Int32) m3))))))))) := by
  unfold La_law_908
  refine (x_aload1 D309_908 rfl).trans ?_
  refine (x_aload1 D309_909 rfl).trans ?_
  refine (x_iload2 D309_910 rfl).trans ?_
  refine (x_iconst D309_912 (k := 1) (by decide)).trans ?_
  refine (x_iadd D309_913).trans ?_
  refine (x_iaload D309_914).trans (ga_c ?_)
  refine (x_aload1 D309_915 rfl).trans ?_
  refine (x_iload2 D309_916 rfl).trans ?_
  refine (x_iconst D309_918 (k := 2) (by decide)).trans ?_
  refine (x_iadd D309_919).trans ?_
  refine (x_iaload D309_920).trans (ga_c ?_)
  refine (x_aload1 D309_921 rfl).trans ?_
  refine (x_iload2 D309_922 rfl).trans ?_
  refine (x_iconst D309_924 (k := 3) (by decide)).trans ?_
  refine (x_iadd D309_925).trans ?_
  refine (x_iaload D309_926).trans (ga_c ?_)
  refine (x_aload1 D309_927 rfl).trans ?_
  refine (x_iload2 D309_928 rfl).trans ?_
  refine (x_iconst D309_930 (k := 4) (by decide)).trans ?_
  refine (x_iadd D309_931).trans ?_
  refine (x_iaload D309_932).trans (ga_c ?_)
  refine (x_cI D309_933 M143 (fun z => by cases z) (I143 _ _ _ _ _) rfl rfl (ok_i M143 (I143 _ _ _ _ _) rfl rfl h_a1)).trans (bI_c fun v2 m1 => ?_)
  refine (x_aload1 D309_936 rfl).trans ?_
  refine (x_aload1 D309_937 rfl).trans ?_
  refine (x_iload2 D309_938 rfl).trans ?_
  refine (x_iconst D309_940 (k := 1) (by decide)).trans ?_
  refine (x_iadd D309_941).trans ?_
  refine (x_iaload D309_942).trans (ga_c ?_)
  refine (x_aload1 D309_943 rfl).trans ?_
  refine (x_iload2 D309_944 rfl).trans ?_
  refine (x_iconst D309_946 (k := 2) (by decide)).trans ?_
  refine (x_iadd D309_947).trans ?_
  refine (x_iaload D309_948).trans (ga_c ?_)
  refine (x_aload1 D309_949 rfl).trans ?_
  refine (x_iload2 D309_950 rfl).trans ?_
  refine (x_iconst D309_952 (k := 3) (by decide)).trans ?_
  refine (x_iadd D309_953).trans ?_
  refine (x_iaload D309_954).trans (ga_c ?_)
  refine (x_aload1 D309_955 rfl).trans ?_
  refine (x_iload2 D309_956 rfl).trans ?_
  refine (x_iconst D309_958 (k := 4) (by decide)).trans ?_
  refine (x_iadd D309_959).trans ?_
  refine (x_iaload D309_960).trans (ga_c ?_)
  refine (x_cI D309_961 M276 (fun z => by cases z) (I276 _ _ _ _ _) rfl rfl (ok_i M276 (I276 _ _ _ _ _) rfl rfl h_a2)).trans (bI_c fun v4 m3 => ?_)
  refine (x_ceq D309_964).trans (i_c ?_ ?_)
  · rfl
  · refine (x_iconst D309_967 (k := 0) (by decide)).trans ?_
    exact (x_bret D309_968 M309.2.2.1).trans yB0
theorem La_law_969_e (d : Nat) (a0 : Nat) (a1 : Nat) (a2 : Nat) (a3 : Nat) (x4 : Int32) (w5 : Value) (w6 : Value) (m : eM) (h_a1 : kd a1 = 9) (h_a2 : kd a2 = 10) : La_law_969 (d + 1) a0 a1 a2 a3 x4 w5 w6 m = ga m a0 20 (x4 + (1 : Int32)) (ga m a0 20 (x4 + (2 : Int32)) (ga m a0 20 (x4 + (3 : Int32)) (if (gI m a0 (x4 + (3 : Int32)).toNatClampNeg) = 0 then (La_law_996 (d + 1) a0 a1 a2 a3 x4 w5 w6 a1 (gI m a0 (x4 + (1 : Int32)).toNatClampNeg) (gI m a0 (x4 + (2 : Int32)).toNatClampNeg) (0 : Int32) m) else (La_law_996 (d + 1) a0 a1 a2 a3 x4 w5 w6 a1 (gI m a0 (x4 + (1 : Int32)).toNatClampNeg) (gI m a0 (x4 + (2 : Int32)).toNatClampNeg) (1 : Int32) m)))) := by
  unfold La_law_969
  refine (x_aload1 D309_969 rfl).trans ?_
  refine (x_aload1 D309_970 rfl).trans ?_
  refine (x_iload2 D309_971 rfl).trans ?_
  refine (x_iconst D309_973 (k := 1) (by decide)).trans ?_
  refine (x_iadd D309_974).trans ?_
  refine (x_iaload D309_975).trans (ga_c ?_)
  refine (x_aload1 D309_976 rfl).trans ?_
  refine (x_iload2 D309_977 rfl).trans ?_
  refine (x_iconst D309_979 (k := 2) (by decide)).trans ?_
  refine (x_iadd D309_980).trans ?_
  refine (x_iaload D309_981).trans (ga_c ?_)
  refine (x_aload1 D309_982 rfl).trans ?_
  refine (x_iload2 D309_983 rfl).trans ?_
  refine (x_iconst D309_985 (k := 3) (by decide)).trans ?_
  refine (x_iadd D309_986).trans ?_
  refine (x_iaload D309_987).trans (ga_c ?_)
  refine (x_ifeq D309_988).trans (i_c ?_ ?_)
  · refine (x_iconst D309_995 (k := 0) (by decide)).trans ?_
    rfl
  · refine (x_iconst D309_991 (k := 1) (by decide)).trans ?_
    refine (x_goto D309_992).trans ?_
    rfl
theorem La_law_996_e (d : Nat) (a0 : Nat) (a1 : Nat) (a2 : Nat) (a3 : Nat) (x4 : Int32) (w5 : Value) (w6 : Value) (b0 : Nat) (p1 : Int32) (p2 : Int32) (p3 : Int32) (m : eM) (h_a1 : kd a1 = 9) (h_a2 : kd a2 = 10) (h_b0 : kd b0 = 9) : La_law_996 (d + 1) a0 a1 a2 a3 x4 w5 w6 b0 p1 p2 p3 m = ga m a0 20 (x4 + (4 : Int32)) (ga m a0 20 (x4 + (5 : Int32)) (bI (LC_learns d b0 p1 p2 p3 (gI m a0 (x4 + (4 : Int32)).toNatClampNeg) (gI m a0 (x4 + (5 : Int32)).toNatClampNeg) m) fun v2 m1 => ga m1 a0 20 (x4 + (1 : Int32)) (ga m1 a0 20 (x4 + (2 : Int32)) (ga m1 a0 20 (x4 + (3 : Int32)) (if (gI m1 a0 (x4 + (3 : Int32)).toNatClampNeg) = 0 then (ga m1 a0 20 (x4 + (4 : Int32)) (ga m1 a0 20 (x4 + (5 : Int32)) (bI (Mo_learns d a2 (gI m1 a0 (x4 + (1 : Int32)).toNatClampNeg) (gI m1 a0 (x4 + (2 : Int32)).toNatClampNeg) (0 : Int32) (gI m1 a0 (x4 + (4 : Int32)).toNatClampNeg) (gI m1 a0 (x4 + (5 : Int32)).toNatClampNeg) m1) fun v4 m3 => if v2 = v4 then (La_law_1818 (d + 1) a0 a1 a2 a3 x4 w5 w6 m3) else (yI (0 : Int32) m3)))) else (ga m1 a0 20 (x4 + (4 : Int32)) (ga m1 a0 20 (x4 + (5 : Int32)) (bI (Mo_learns d a2 (gI m1 a0 (x4 + (1 : Int32)).toNatClampNeg) (gI m1 a0 (x4 + (2 : Int32)).toNatClampNeg) (1 : Int32) (gI m1 a0 (x4 + (4 : Int32)).toNatClampNeg) (gI m1 a0 (x4 + (5 : Int32)).toNatClampNeg) m1) fun v6 m5 => if v2 = v6 then (La_law_1818 (d + 1) a0 a1 a2 a3 x4 w5 w6 m5) else (yI (0 : Int32) m5))))))))) := by
  unfold La_law_996
  refine (x_aload1 D309_996 rfl).trans ?_
  refine (x_iload2 D309_997 rfl).trans ?_
  refine (x_iconst D309_999 (k := 4) (by decide)).trans ?_
  refine (x_iadd D309_1000).trans ?_
  refine (x_iaload D309_1001).trans (ga_c ?_)
  refine (x_aload1 D309_1002 rfl).trans ?_
  refine (x_iload2 D309_1003 rfl).trans ?_
  refine (x_iconst D309_1005 (k := 5) (by decide)).trans ?_
  refine (x_iadd D309_1006).trans ?_
  refine (x_iaload D309_1007).trans (ga_c ?_)
  refine (x_cI D309_1008 M144 (fun z => by cases z) (I144 _ _ _ _ _ _) rfl rfl (ok_i M144 (I144 _ _ _ _ _ _) rfl rfl h_b0)).trans (bI_c fun v2 m1 => ?_)
  refine (x_aload1 D309_1011 rfl).trans ?_
  refine (x_aload1 D309_1012 rfl).trans ?_
  refine (x_iload2 D309_1013 rfl).trans ?_
  refine (x_iconst D309_1015 (k := 1) (by decide)).trans ?_
  refine (x_iadd D309_1016).trans ?_
  refine (x_iaload D309_1017).trans (ga_c ?_)
  refine (x_aload1 D309_1018 rfl).trans ?_
  refine (x_iload2 D309_1019 rfl).trans ?_
  refine (x_iconst D309_1021 (k := 2) (by decide)).trans ?_
  refine (x_iadd D309_1022).trans ?_
  refine (x_iaload D309_1023).trans (ga_c ?_)
  refine (x_aload1 D309_1024 rfl).trans ?_
  refine (x_iload2 D309_1025 rfl).trans ?_
  refine (x_iconst D309_1027 (k := 3) (by decide)).trans ?_
  refine (x_iadd D309_1028).trans ?_
  refine (x_iaload D309_1029).trans (ga_c ?_)
  refine (x_ifeq D309_1030).trans (i_c ?_ ?_)
  · refine (x_iconst D309_1037 (k := 0) (by decide)).trans ?_
    refine (x_aload1 D309_1038 rfl).trans ?_
    refine (x_iload2 D309_1039 rfl).trans ?_
    refine (x_iconst D309_1041 (k := 4) (by decide)).trans ?_
    refine (x_iadd D309_1042).trans ?_
    refine (x_iaload D309_1043).trans (ga_c ?_)
    refine (x_aload1 D309_1044 rfl).trans ?_
    refine (x_iload2 D309_1045 rfl).trans ?_
    refine (x_iconst D309_1047 (k := 5) (by decide)).trans ?_
    refine (x_iadd D309_1048).trans ?_
    refine (x_iaload D309_1049).trans (ga_c ?_)
    refine (x_cI D309_1050 M277 (fun z => by cases z) (I277 _ _ _ _ _ _) rfl rfl (ok_i M277 (I277 _ _ _ _ _ _) rfl rfl h_a2)).trans (bI_c fun v4 m3 => ?_)
    refine (x_ceq D309_1053).trans (i_c ?_ ?_)
    · rfl
    · refine (x_iconst D309_1056 (k := 0) (by decide)).trans ?_
      exact (x_bret D309_1057 M309.2.2.1).trans yB0
  · refine (x_iconst D309_1033 (k := 1) (by decide)).trans ?_
    refine (x_goto D309_1034).trans ?_
    refine (x_aload1 D309_1038 rfl).trans ?_
    refine (x_iload2 D309_1039 rfl).trans ?_
    refine (x_iconst D309_1041 (k := 4) (by decide)).trans ?_
    refine (x_iadd D309_1042).trans ?_
    refine (x_iaload D309_1043).trans (ga_c ?_)
    refine (x_aload1 D309_1044 rfl).trans ?_
    refine (x_iload2 D309_1045 rfl).trans ?_
    refine (x_iconst D309_1047 (k := 5) (by decide)).trans ?_
    refine (x_iadd D309_1048).trans ?_
    refine (x_iaload D309_1049).trans (ga_c ?_)
    refine (x_cI D309_1050 M277 (fun z => by cases z) (I277 _ _ _ _ _ _) rfl rfl (ok_i M277 (I277 _ _ _ _ _ _) rfl rfl h_a2)).trans (bI_c fun v6 m5 => ?_)
    refine (x_ceq D309_1053).trans (i_c ?_ ?_)
    · rfl
    · refine (x_iconst D309_1056 (k := 0) (by decide)).trans ?_
      exact (x_bret D309_1057 M309.2.2.1).trans yB0
theorem La_law_1058_e (d : Nat) (a0 : Nat) (a1 : Nat) (a2 : Nat) (a3 : Nat) (x4 : Int32) (w5 : Value) (w6 : Value) (m : eM) (h_a1 : kd a1 = 9) (h_a2 : kd a2 = 10) : La_law_1058 (d + 1) a0 a1 a2 a3 x4 w5 w6 m = bI (LC_judged d a1 m) fun v2 m1 => bI (Mo_judged d a2 m1) fun v4 m3 => if v2 = v4 then (La_law_1818 (d + 1) a0 a1 a2 a3 x4 w5 w6 m3) else (yI (0 : Int32) m3) := by
  unfold La_law_1058
  refine (x_aload1 D309_1058 rfl).trans ?_
  refine (x_cI D309_1059 M160 (fun z => by cases z) (I160 _) rfl rfl (ok_i M160 (I160 _) rfl rfl h_a1)).trans (bI_c fun v2 m1 => ?_)
  refine (x_aload1 D309_1062 rfl).trans ?_
  refine (x_cI D309_1063 M278 (fun z => by cases z) (I278 _) rfl rfl (ok_i M278 (I278 _) rfl rfl h_a2)).trans (bI_c fun v4 m3 => ?_)
  refine (x_ceq D309_1066).trans (i_c ?_ ?_)
  · rfl
  · refine (x_iconst D309_1069 (k := 0) (by decide)).trans ?_
    exact (x_bret D309_1070 M309.2.2.1).trans yB0
theorem La_law_1071_e (d : Nat) (a0 : Nat) (a1 : Nat) (a2 : Nat) (a3 : Nat) (x4 : Int32) (w5 : Value) (w6 : Value) (m : eM) (h_a1 : kd a1 = 9) (h_a2 : kd a2 = 10) : La_law_1071 (d + 1) a0 a1 a2 a3 x4 w5 w6 m = ga m a0 20 (x4 + (1 : Int32)) (ga m a0 20 (x4 + (2 : Int32)) (bI (LC_turned d a1 (gI m a0 (x4 + (1 : Int32)).toNatClampNeg) (gI m a0 (x4 + (2 : Int32)).toNatClampNeg) m) fun v2 m1 => ga m1 a0 20 (x4 + (1 : Int32)) (ga m1 a0 20 (x4 + (2 : Int32)) (bI (Mo_turned d a2 (gI m1 a0 (x4 + (1 : Int32)).toNatClampNeg) (gI m1 a0 (x4 + (2 : Int32)).toNatClampNeg) m1) fun v4 m3 => if v2 = v4 then (La_law_1818 (d + 1) a0 a1 a2 a3 x4 w5 w6 m3) else (yI (0 : Int32) m3))))) := by
  unfold La_law_1071
  refine (x_aload1 D309_1071 rfl).trans ?_
  refine (x_aload1 D309_1072 rfl).trans ?_
  refine (x_iload2 D309_1073 rfl).trans ?_
  refine (x_iconst D309_1075 (k := 1) (by decide)).trans ?_
  refine (x_iadd D309_1076).trans ?_
  refine (x_iaload D309_1077).trans (ga_c ?_)
  refine (x_aload1 D309_1078 rfl).trans ?_
  refine (x_iload2 D309_1079 rfl).trans ?_
  refine (x_iconst D309_1081 (k := 2) (by decide)).trans ?_
  refine (x_iadd D309_1082).trans ?_
  refine (x_iaload D309_1083).trans (ga_c ?_)
  refine (x_cI D309_1084 M161 (fun z => by cases z) (I161 _ _ _) rfl rfl (ok_i M161 (I161 _ _ _) rfl rfl h_a1)).trans (bI_c fun v2 m1 => ?_)
  refine (x_aload1 D309_1087 rfl).trans ?_
  refine (x_aload1 D309_1088 rfl).trans ?_
  refine (x_iload2 D309_1089 rfl).trans ?_
  refine (x_iconst D309_1091 (k := 1) (by decide)).trans ?_
  refine (x_iadd D309_1092).trans ?_
  refine (x_iaload D309_1093).trans (ga_c ?_)
  refine (x_aload1 D309_1094 rfl).trans ?_
  refine (x_iload2 D309_1095 rfl).trans ?_
  refine (x_iconst D309_1097 (k := 2) (by decide)).trans ?_
  refine (x_iadd D309_1098).trans ?_
  refine (x_iaload D309_1099).trans (ga_c ?_)
  refine (x_cI D309_1100 M279 (fun z => by cases z) (I279 _ _ _) rfl rfl (ok_i M279 (I279 _ _ _) rfl rfl h_a2)).trans (bI_c fun v4 m3 => ?_)
  refine (x_ceq D309_1103).trans (i_c ?_ ?_)
  · rfl
  · refine (x_iconst D309_1106 (k := 0) (by decide)).trans ?_
    exact (x_bret D309_1107 M309.2.2.1).trans yB0
theorem La_law_1108_e (d : Nat) (a0 : Nat) (a1 : Nat) (a2 : Nat) (a3 : Nat) (x4 : Int32) (w5 : Value) (w6 : Value) (m : eM) (h_a1 : kd a1 = 9) (h_a2 : kd a2 = 10) : La_law_1108 (d + 1) a0 a1 a2 a3 x4 w5 w6 m = ga m a0 20 (x4 + (1 : Int32)) (ga m a0 20 (x4 + (2 : Int32)) (ga m a0 20 (x4 + (3 : Int32)) (ga m a0 20 (x4 + (4 : Int32)) (bI (LC_pointed d a1 (gI m a0 (x4 + (1 : Int32)).toNatClampNeg) (gI m a0 (x4 + (2 : Int32)).toNatClampNeg) (gI m a0 (x4 + (3 : Int32)).toNatClampNeg) (gI m a0 (x4 + (4 : Int32)).toNatClampNeg) m) fun v2 m1 => ga m1 a0 20 (x4 + (1 : Int32)) (ga m1 a0 20 (x4 + (2 : Int32)) (ga m1 a0 20 (x4 + (3 : Int32)) (ga m1 a0 20 (x4 + (4 : Int32)) (bI (Mo_pointed d a2 (gI m1 a0 (x4 + (1 : Int32)).toNatClampNeg) (gI m1 a0 (x4 + (2 : Int32)).toNatClampNeg) (gI m1 a0 (x4 + (3 : Int32)).toNatClampNeg) (gI m1 a0 (x4 + (4 : Int32)).toNatClampNeg) m1) fun v4 m3 => if v2 = v4 then (La_law_1818 (d + 1) a0 a1 a2 a3 x4 w5 w6 m3) else (yI (0 : Int32) m3))))))))) := by
  unfold La_law_1108
  refine (x_aload1 D309_1108 rfl).trans ?_
  refine (x_aload1 D309_1109 rfl).trans ?_
  refine (x_iload2 D309_1110 rfl).trans ?_
  refine (x_iconst D309_1112 (k := 1) (by decide)).trans ?_
  refine (x_iadd D309_1113).trans ?_
  refine (x_iaload D309_1114).trans (ga_c ?_)
  refine (x_aload1 D309_1115 rfl).trans ?_
  refine (x_iload2 D309_1116 rfl).trans ?_
  refine (x_iconst D309_1118 (k := 2) (by decide)).trans ?_
  refine (x_iadd D309_1119).trans ?_
  refine (x_iaload D309_1120).trans (ga_c ?_)
  refine (x_aload1 D309_1121 rfl).trans ?_
  refine (x_iload2 D309_1122 rfl).trans ?_
  refine (x_iconst D309_1124 (k := 3) (by decide)).trans ?_
  refine (x_iadd D309_1125).trans ?_
  refine (x_iaload D309_1126).trans (ga_c ?_)
  refine (x_aload1 D309_1127 rfl).trans ?_
  refine (x_iload2 D309_1128 rfl).trans ?_
  refine (x_iconst D309_1130 (k := 4) (by decide)).trans ?_
  refine (x_iadd D309_1131).trans ?_
  refine (x_iaload D309_1132).trans (ga_c ?_)
  refine (x_cI D309_1133 M167 (fun z => by cases z) (I167 _ _ _ _ _) rfl rfl (ok_i M167 (I167 _ _ _ _ _) rfl rfl h_a1)).trans (bI_c fun v2 m1 => ?_)
  refine (x_aload1 D309_1136 rfl).trans ?_
  refine (x_aload1 D309_1137 rfl).trans ?_
  refine (x_iload2 D309_1138 rfl).trans ?_
  refine (x_iconst D309_1140 (k := 1) (by decide)).trans ?_
  refine (x_iadd D309_1141).trans ?_
  refine (x_iaload D309_1142).trans (ga_c ?_)
  refine (x_aload1 D309_1143 rfl).trans ?_
  refine (x_iload2 D309_1144 rfl).trans ?_
  refine (x_iconst D309_1146 (k := 2) (by decide)).trans ?_
  refine (x_iadd D309_1147).trans ?_
  refine (x_iaload D309_1148).trans (ga_c ?_)
  refine (x_aload1 D309_1149 rfl).trans ?_
  refine (x_iload2 D309_1150 rfl).trans ?_
  refine (x_iconst D309_1152 (k := 3) (by decide)).trans ?_
  refine (x_iadd D309_1153).trans ?_
  refine (x_iaload D309_1154).trans (ga_c ?_)
  refine (x_aload1 D309_1155 rfl).trans ?_
  refine (x_iload2 D309_1156 rfl).trans ?_
  refine (x_iconst D309_1158 (k := 4) (by decide)).trans ?_
  refine (x_iadd D309_1159).trans ?_
  refine (x_iaload D309_1160).trans (ga_c ?_)
  refine (x_cI D309_1161 M280 (fun z => by cases z) (I280 _ _ _ _ _) rfl rfl (ok_i M280 (I280 _ _ _ _ _) rfl rfl h_a2)).trans (bI_c fun v4 m3 => ?_)
  refine (x_ceq D309_1164).trans (i_c ?_ ?_)
  · rfl
  · refine (x_iconst D309_1167 (k := 0) (by decide)).trans ?_
    exact (x_bret D309_1168 M309.2.2.1).trans yB0
theorem La_law_1169_e (d : Nat) (a0 : Nat) (a1 : Nat) (a2 : Nat) (a3 : Nat) (x4 : Int32) (w5 : Value) (w6 : Value) (m : eM) (h_a1 : kd a1 = 9) (h_a2 : kd a2 = 10) : La_law_1169 (d + 1) a0 a1 a2 a3 x4 w5 w6 m = ga m a0 20 (x4 + (1 : Int32)) (ga m a0 20 (x4 + (2 : Int32)) (bI (LC_round d a1 (gI m a0 (x4 + (1 : Int32)).toNatClampNeg) (gI m a0 (x4 + (2 : Int32)).toNatClampNeg) m) fun v2 m1 => ga m1 a0 20 (x4 + (1 : Int32)) (ga m1 a0 20 (x4 + (2 : Int32)) (bI (Mo_round d a2 (gI m1 a0 (x4 + (1 : Int32)).toNatClampNeg) (gI m1 a0 (x4 + (2 : Int32)).toNatClampNeg) m1) fun v4 m3 => if v2 = v4 then (La_law_1818 (d + 1) a0 a1 a2 a3 x4 w5 w6 m3) else (yI (0 : Int32) m3))))) := by
  unfold La_law_1169
  refine (x_aload1 D309_1169 rfl).trans ?_
  refine (x_aload1 D309_1170 rfl).trans ?_
  refine (x_iload2 D309_1171 rfl).trans ?_
  refine (x_iconst D309_1173 (k := 1) (by decide)).trans ?_
  refine (x_iadd D309_1174).trans ?_
  refine (x_iaload D309_1175).trans (ga_c ?_)
  refine (x_aload1 D309_1176 rfl).trans ?_
  refine (x_iload2 D309_1177 rfl).trans ?_
  refine (x_iconst D309_1179 (k := 2) (by decide)).trans ?_
  refine (x_iadd D309_1180).trans ?_
  refine (x_iaload D309_1181).trans (ga_c ?_)
  refine (x_cI D309_1182 M170 (fun z => by cases z) (I170 _ _ _) rfl rfl (ok_i M170 (I170 _ _ _) rfl rfl h_a1)).trans (bI_c fun v2 m1 => ?_)
  refine (x_aload1 D309_1185 rfl).trans ?_
  refine (x_aload1 D309_1186 rfl).trans ?_
  refine (x_iload2 D309_1187 rfl).trans ?_
  refine (x_iconst D309_1189 (k := 1) (by decide)).trans ?_
  refine (x_iadd D309_1190).trans ?_
  refine (x_iaload D309_1191).trans (ga_c ?_)
  refine (x_aload1 D309_1192 rfl).trans ?_
  refine (x_iload2 D309_1193 rfl).trans ?_
  refine (x_iconst D309_1195 (k := 2) (by decide)).trans ?_
  refine (x_iadd D309_1196).trans ?_
  refine (x_iaload D309_1197).trans (ga_c ?_)
  refine (x_cI D309_1198 M281 (fun z => by cases z) (I281 _ _ _) rfl rfl (ok_i M281 (I281 _ _ _) rfl rfl h_a2)).trans (bI_c fun v4 m3 => ?_)
  refine (x_ceq D309_1201).trans (i_c ?_ ?_)
  · rfl
  · refine (x_iconst D309_1204 (k := 0) (by decide)).trans ?_
    exact (x_bret D309_1205 M309.2.2.1).trans yB0
theorem La_law_1206_e (d : Nat) (a0 : Nat) (a1 : Nat) (a2 : Nat) (a3 : Nat) (x4 : Int32) (w5 : Value) (w6 : Value) (m : eM) (h_a1 : kd a1 = 9) (h_a2 : kd a2 = 10) : La_law_1206 (d + 1) a0 a1 a2 a3 x4 w5 w6 m = ga m a0 20 (x4 + (1 : Int32)) (ga m a0 20 (x4 + (2 : Int32)) (bI (LC_hidden d a1 (gI m a0 (x4 + (1 : Int32)).toNatClampNeg) (gI m a0 (x4 + (2 : Int32)).toNatClampNeg) m) fun v2 m1 => ga m1 a0 20 (x4 + (1 : Int32)) (ga m1 a0 20 (x4 + (2 : Int32)) (bI (Mo_hidden d a2 (gI m1 a0 (x4 + (1 : Int32)).toNatClampNeg) (gI m1 a0 (x4 + (2 : Int32)).toNatClampNeg) m1) fun v4 m3 => if v2 = v4 then (La_law_1818 (d + 1) a0 a1 a2 a3 x4 w5 w6 m3) else (yI (0 : Int32) m3))))) := by
  unfold La_law_1206
  refine (x_aload1 D309_1206 rfl).trans ?_
  refine (x_aload1 D309_1207 rfl).trans ?_
  refine (x_iload2 D309_1208 rfl).trans ?_
  refine (x_iconst D309_1210 (k := 1) (by decide)).trans ?_
  refine (x_iadd D309_1211).trans ?_
  refine (x_iaload D309_1212).trans (ga_c ?_)
  refine (x_aload1 D309_1213 rfl).trans ?_
  refine (x_iload2 D309_1214 rfl).trans ?_
  refine (x_iconst D309_1216 (k := 2) (by decide)).trans ?_
  refine (x_iadd D309_1217).trans ?_
  refine (x_iaload D309_1218).trans (ga_c ?_)
  refine (x_cI D309_1219 M180 (fun z => by cases z) (I180 _ _ _) rfl rfl (ok_i M180 (I180 _ _ _) rfl rfl h_a1)).trans (bI_c fun v2 m1 => ?_)
  refine (x_aload1 D309_1222 rfl).trans ?_
  refine (x_aload1 D309_1223 rfl).trans ?_
  refine (x_iload2 D309_1224 rfl).trans ?_
  refine (x_iconst D309_1226 (k := 1) (by decide)).trans ?_
  refine (x_iadd D309_1227).trans ?_
  refine (x_iaload D309_1228).trans (ga_c ?_)
  refine (x_aload1 D309_1229 rfl).trans ?_
  refine (x_iload2 D309_1230 rfl).trans ?_
  refine (x_iconst D309_1232 (k := 2) (by decide)).trans ?_
  refine (x_iadd D309_1233).trans ?_
  refine (x_iaload D309_1234).trans (ga_c ?_)
  refine (x_cI D309_1235 M284 (fun z => by cases z) (I284 _ _ _) rfl rfl (ok_i M284 (I284 _ _ _) rfl rfl h_a2)).trans (bI_c fun v4 m3 => ?_)
  refine (x_ceq D309_1238).trans (i_c ?_ ?_)
  · rfl
  · refine (x_iconst D309_1241 (k := 0) (by decide)).trans ?_
    exact (x_bret D309_1242 M309.2.2.1).trans yB0
theorem La_law_1243_e (d : Nat) (a0 : Nat) (a1 : Nat) (a2 : Nat) (a3 : Nat) (x4 : Int32) (w5 : Value) (w6 : Value) (m : eM) (h_a1 : kd a1 = 9) (h_a2 : kd a2 = 10) : La_law_1243 (d + 1) a0 a1 a2 a3 x4 w5 w6 m = ga m a0 20 (x4 + (1 : Int32)) (ga m a0 20 (x4 + (2 : Int32)) (bI (LC_hide d a1 (gI m a0 (x4 + (1 : Int32)).toNatClampNeg) (gI m a0 (x4 + (2 : Int32)).toNatClampNeg) m) fun v2 m1 => ga m1 a0 20 (x4 + (1 : Int32)) (ga m1 a0 20 (x4 + (2 : Int32)) (bI (Mo_hide d a2 (gI m1 a0 (x4 + (1 : Int32)).toNatClampNeg) (gI m1 a0 (x4 + (2 : Int32)).toNatClampNeg) m1) fun v4 m3 => if v2 = v4 then (La_law_1818 (d + 1) a0 a1 a2 a3 x4 w5 w6 m3) else (yI (0 : Int32) m3))))) := by
  unfold La_law_1243
  refine (x_aload1 D309_1243 rfl).trans ?_
  refine (x_aload1 D309_1244 rfl).trans ?_
  refine (x_iload2 D309_1245 rfl).trans ?_
  refine (x_iconst D309_1247 (k := 1) (by decide)).trans ?_
  refine (x_iadd D309_1248).trans ?_
  refine (x_iaload D309_1249).trans (ga_c ?_)
  refine (x_aload1 D309_1250 rfl).trans ?_
  refine (x_iload2 D309_1251 rfl).trans ?_
  refine (x_iconst D309_1253 (k := 2) (by decide)).trans ?_
  refine (x_iadd D309_1254).trans ?_
  refine (x_iaload D309_1255).trans (ga_c ?_)
  refine (x_cI D309_1256 M186 (fun z => by cases z) (I186 _ _ _) rfl rfl (ok_i M186 (I186 _ _ _) rfl rfl h_a1)).trans (bI_c fun v2 m1 => ?_)
  refine (x_aload1 D309_1259 rfl).trans ?_
  refine (x_aload1 D309_1260 rfl).trans ?_
  refine (x_iload2 D309_1261 rfl).trans ?_
  refine (x_iconst D309_1263 (k := 1) (by decide)).trans ?_
  refine (x_iadd D309_1264).trans ?_
  refine (x_iaload D309_1265).trans (ga_c ?_)
  refine (x_aload1 D309_1266 rfl).trans ?_
  refine (x_iload2 D309_1267 rfl).trans ?_
  refine (x_iconst D309_1269 (k := 2) (by decide)).trans ?_
  refine (x_iadd D309_1270).trans ?_
  refine (x_iaload D309_1271).trans (ga_c ?_)
  refine (x_cI D309_1272 M287 (fun z => by cases z) (I287 _ _ _) rfl rfl (ok_i M287 (I287 _ _ _) rfl rfl h_a2)).trans (bI_c fun v4 m3 => ?_)
  refine (x_ceq D309_1275).trans (i_c ?_ ?_)
  · rfl
  · refine (x_iconst D309_1278 (k := 0) (by decide)).trans ?_
    exact (x_bret D309_1279 M309.2.2.1).trans yB0
theorem La_law_1280_e (d : Nat) (a0 : Nat) (a1 : Nat) (a2 : Nat) (a3 : Nat) (x4 : Int32) (w5 : Value) (w6 : Value) (m : eM) (h_a1 : kd a1 = 9) (h_a2 : kd a2 = 10) : La_law_1280 (d + 1) a0 a1 a2 a3 x4 w5 w6 m = ga m a0 20 (x4 + (1 : Int32)) (ga m a0 20 (x4 + (2 : Int32)) (ga m a0 20 (x4 + (3 : Int32)) (ga m a0 20 (x4 + (4 : Int32)) (ga m a0 20 (x4 + (5 : Int32)) (bI (La_secret d a1 (gI m a0 (x4 + (1 : Int32)).toNatClampNeg) (gI m a0 (x4 + (2 : Int32)).toNatClampNeg) (gI m a0 (x4 + (3 : Int32)).toNatClampNeg) (gI m a0 (x4 + (4 : Int32)).toNatClampNeg) (gI m a0 (x4 + (5 : Int32)).toNatClampNeg) a3 m) fun v2 m1 => ga m1 a0 20 (x4 + (1 : Int32)) (ga m1 a0 20 (x4 + (2 : Int32)) (ga m1 a0 20 (x4 + (3 : Int32)) (ga m1 a0 20 (x4 + (4 : Int32)) (ga m1 a0 20 (x4 + (5 : Int32)) (bL (Mo_secret d a2 (gI m1 a0 (x4 + (1 : Int32)).toNatClampNeg) (gI m1 a0 (x4 + (2 : Int32)).toNatClampNeg) (gI m1 a0 (x4 + (3 : Int32)).toNatClampNeg) (gI m1 a0 (x4 + (4 : Int32)).toNatClampNeg) (gI m1 a0 (x4 + (5 : Int32)).toNatClampNeg) m1) fun v4 m3 => bI (Mo_thrown d a2 m3) fun v6 m5 => if v6 = v2 then (if ¬ v2 = 0 then (La_law_1818 (d + 1) a0 a1 a2 a3 x4 (.int v2) (.long v4) m5) else (ga m5 a3 21 (0 : Int32) (if (lg_cmp (gL m5 a3 (0 : Int32).toNatClampNeg) v4) = 0 then (La_law_1818 (d + 1) a0 a1 a2 a3 x4 (.int v2) (.long v4) m5) else (yI (0 : Int32) m5)))) else (yI (0 : Int32) m5))))))))))) := by
  unfold La_law_1280
  refine (x_aload1 D309_1280 rfl).trans ?_
  refine (x_aload1 D309_1281 rfl).trans ?_
  refine (x_iload2 D309_1282 rfl).trans ?_
  refine (x_iconst D309_1284 (k := 1) (by decide)).trans ?_
  refine (x_iadd D309_1285).trans ?_
  refine (x_iaload D309_1286).trans (ga_c ?_)
  refine (x_aload1 D309_1287 rfl).trans ?_
  refine (x_iload2 D309_1288 rfl).trans ?_
  refine (x_iconst D309_1290 (k := 2) (by decide)).trans ?_
  refine (x_iadd D309_1291).trans ?_
  refine (x_iaload D309_1292).trans (ga_c ?_)
  refine (x_aload1 D309_1293 rfl).trans ?_
  refine (x_iload2 D309_1294 rfl).trans ?_
  refine (x_iconst D309_1296 (k := 3) (by decide)).trans ?_
  refine (x_iadd D309_1297).trans ?_
  refine (x_iaload D309_1298).trans (ga_c ?_)
  refine (x_aload1 D309_1299 rfl).trans ?_
  refine (x_iload2 D309_1300 rfl).trans ?_
  refine (x_iconst D309_1302 (k := 4) (by decide)).trans ?_
  refine (x_iadd D309_1303).trans ?_
  refine (x_iaload D309_1304).trans (ga_c ?_)
  refine (x_aload1 D309_1305 rfl).trans ?_
  refine (x_iload2 D309_1306 rfl).trans ?_
  refine (x_iconst D309_1308 (k := 5) (by decide)).trans ?_
  refine (x_iadd D309_1309).trans ?_
  refine (x_iaload D309_1310).trans (ga_c ?_)
  refine (x_aload1 D309_1311 rfl).trans ?_
  refine (x_cI D309_1312 M308 (fun z => by cases z) (I308 _ _ _ _ _ _ _) rfl rfl (ok_s M308 (I308 _ _ _ _ _ _ _) rfl rfl)).trans (bI_c fun v2 m1 => ?_)
  refine (x_istore2 D309_1315 (ls' := [.ref a0, .ref a1, .ref a2, .ref a3, .int x4, .int v2, w6, eU]) rfl rfl).trans ?_
  refine (x_aload1 D309_1317 rfl).trans ?_
  refine (x_aload1 D309_1318 rfl).trans ?_
  refine (x_iload2 D309_1319 rfl).trans ?_
  refine (x_iconst D309_1321 (k := 1) (by decide)).trans ?_
  refine (x_iadd D309_1322).trans ?_
  refine (x_iaload D309_1323).trans (ga_c ?_)
  refine (x_aload1 D309_1324 rfl).trans ?_
  refine (x_iload2 D309_1325 rfl).trans ?_
  refine (x_iconst D309_1327 (k := 2) (by decide)).trans ?_
  refine (x_iadd D309_1328).trans ?_
  refine (x_iaload D309_1329).trans (ga_c ?_)
  refine (x_aload1 D309_1330 rfl).trans ?_
  refine (x_iload2 D309_1331 rfl).trans ?_
  refine (x_iconst D309_1333 (k := 3) (by decide)).trans ?_
  refine (x_iadd D309_1334).trans ?_
  refine (x_iaload D309_1335).trans (ga_c ?_)
  refine (x_aload1 D309_1336 rfl).trans ?_
  refine (x_iload2 D309_1337 rfl).trans ?_
  refine (x_iconst D309_1339 (k := 4) (by decide)).trans ?_
  refine (x_iadd D309_1340).trans ?_
  refine (x_iaload D309_1341).trans (ga_c ?_)
  refine (x_aload1 D309_1342 rfl).trans ?_
  refine (x_iload2 D309_1343 rfl).trans ?_
  refine (x_iconst D309_1345 (k := 5) (by decide)).trans ?_
  refine (x_iadd D309_1346).trans ?_
  refine (x_iaload D309_1347).trans (ga_c ?_)
  refine (x_cL D309_1348 M288  (I288 _ _ _ _ _ _) rfl rfl (ok_i M288 (I288 _ _ _ _ _ _) rfl rfl h_a2)).trans (bL_c fun v4 m3 => ?_)
  refine (x_lstore2 D309_1351 (ls' := [.ref a0, .ref a1, .ref a2, .ref a3, .int x4, .int v2, .long v4, eU]) rfl rfl).trans ?_
  refine (x_aload1 D309_1353 rfl).trans ?_
  refine (x_cI D309_1354 M206 (fun z => by cases z) (I206 _) rfl rfl (ok_i M206 (I206 _) rfl rfl h_a2)).trans (bI_c fun v6 m5 => ?_)
  refine (x_iload2 D309_1357 rfl).trans ?_
  refine (x_ceq D309_1359).trans (i_c ?_ ?_)
  · refine (x_iload2 D309_1364 rfl).trans ?_
    refine (x_ifne D309_1366).trans (i_c ?_ ?_)
    · refine (x_goto D309_1380).trans ?_
      rfl
    · refine (x_aload1 D309_1369 rfl).trans ?_
      refine (x_iconst D309_1370 (k := 0) (by decide)).trans ?_
      refine (x_laload D309_1371).trans (ga_c ?_)
      refine (x_lload2 D309_1372 rfl).trans ?_
      refine (x_lcmp D309_1374).trans ?_
      refine (x_ifeq D309_1375).trans (i_c ?_ ?_)
      · refine (x_goto D309_1380).trans ?_
        rfl
      · refine (x_iconst D309_1378 (k := 0) (by decide)).trans ?_
        exact (x_bret D309_1379 M309.2.2.1).trans yB0
  · refine (x_iconst D309_1362 (k := 0) (by decide)).trans ?_
    exact (x_bret D309_1363 M309.2.2.1).trans yB0
theorem La_law_1383_e (d : Nat) (a0 : Nat) (a1 : Nat) (a2 : Nat) (a3 : Nat) (x4 : Int32) (w5 : Value) (w6 : Value) (m : eM) (h_a1 : kd a1 = 9) (h_a2 : kd a2 = 10) : La_law_1383 (d + 1) a0 a1 a2 a3 x4 w5 w6 m = ga m a0 20 (x4 + (1 : Int32)) (ga m a0 20 (x4 + (2 : Int32)) (bI (LC_sector d a1 (gI m a0 (x4 + (1 : Int32)).toNatClampNeg) (gI m a0 (x4 + (2 : Int32)).toNatClampNeg) m) fun v2 m1 => ga m1 a0 20 (x4 + (1 : Int32)) (ga m1 a0 20 (x4 + (2 : Int32)) (bI (Mo_sector d a2 (gI m1 a0 (x4 + (1 : Int32)).toNatClampNeg) (gI m1 a0 (x4 + (2 : Int32)).toNatClampNeg) m1) fun v4 m3 => if v2 = v4 then (La_law_1818 (d + 1) a0 a1 a2 a3 x4 w5 w6 m3) else (yI (0 : Int32) m3))))) := by
  unfold La_law_1383
  refine (x_aload1 D309_1383 rfl).trans ?_
  refine (x_aload1 D309_1384 rfl).trans ?_
  refine (x_iload2 D309_1385 rfl).trans ?_
  refine (x_iconst D309_1387 (k := 1) (by decide)).trans ?_
  refine (x_iadd D309_1388).trans ?_
  refine (x_iaload D309_1389).trans (ga_c ?_)
  refine (x_aload1 D309_1390 rfl).trans ?_
  refine (x_iload2 D309_1391 rfl).trans ?_
  refine (x_iconst D309_1393 (k := 2) (by decide)).trans ?_
  refine (x_iadd D309_1394).trans ?_
  refine (x_iaload D309_1395).trans (ga_c ?_)
  refine (x_cI D309_1396 M187 (fun z => by cases z) (I187 _ _ _) rfl rfl (ok_i M187 (I187 _ _ _) rfl rfl h_a1)).trans (bI_c fun v2 m1 => ?_)
  refine (x_aload1 D309_1399 rfl).trans ?_
  refine (x_aload1 D309_1400 rfl).trans ?_
  refine (x_iload2 D309_1401 rfl).trans ?_
  refine (x_iconst D309_1403 (k := 1) (by decide)).trans ?_
  refine (x_iadd D309_1404).trans ?_
  refine (x_iaload D309_1405).trans (ga_c ?_)
  refine (x_aload1 D309_1406 rfl).trans ?_
  refine (x_iload2 D309_1407 rfl).trans ?_
  refine (x_iconst D309_1409 (k := 2) (by decide)).trans ?_
  refine (x_iadd D309_1410).trans ?_
  refine (x_iaload D309_1411).trans (ga_c ?_)
  refine (x_cI D309_1412 M289 (fun z => by cases z) (I289 _ _ _) rfl rfl (ok_i M289 (I289 _ _ _) rfl rfl h_a2)).trans (bI_c fun v4 m3 => ?_)
  refine (x_ceq D309_1415).trans (i_c ?_ ?_)
  · rfl
  · refine (x_iconst D309_1418 (k := 0) (by decide)).trans ?_
    exact (x_bret D309_1419 M309.2.2.1).trans yB0
theorem La_law_1420_e (d : Nat) (a0 : Nat) (a1 : Nat) (a2 : Nat) (a3 : Nat) (x4 : Int32) (w5 : Value) (w6 : Value) (m : eM) (h_a1 : kd a1 = 9) (h_a2 : kd a2 = 10) : La_law_1420 (d + 1) a0 a1 a2 a3 x4 w5 w6 m = ga m a0 20 (x4 + (1 : Int32)) (ga m a0 20 (x4 + (2 : Int32)) (bI (LC_blind d a1 (gI m a0 (x4 + (1 : Int32)).toNatClampNeg) (gI m a0 (x4 + (2 : Int32)).toNatClampNeg) m) fun v2 m1 => ga m1 a0 20 (x4 + (1 : Int32)) (ga m1 a0 20 (x4 + (2 : Int32)) (bI (Mo_blind d a2 (gI m1 a0 (x4 + (1 : Int32)).toNatClampNeg) (gI m1 a0 (x4 + (2 : Int32)).toNatClampNeg) m1) fun v4 m3 => if v2 = v4 then (La_law_1818 (d + 1) a0 a1 a2 a3 x4 w5 w6 m3) else (yI (0 : Int32) m3))))) := by
  unfold La_law_1420
  refine (x_aload1 D309_1420 rfl).trans ?_
  refine (x_aload1 D309_1421 rfl).trans ?_
  refine (x_iload2 D309_1422 rfl).trans ?_
  refine (x_iconst D309_1424 (k := 1) (by decide)).trans ?_
  refine (x_iadd D309_1425).trans ?_
  refine (x_iaload D309_1426).trans (ga_c ?_)
  refine (x_aload1 D309_1427 rfl).trans ?_
  refine (x_iload2 D309_1428 rfl).trans ?_
  refine (x_iconst D309_1430 (k := 2) (by decide)).trans ?_
  refine (x_iadd D309_1431).trans ?_
  refine (x_iaload D309_1432).trans (ga_c ?_)
  refine (x_cI D309_1433 M188 (fun z => by cases z) (I188 _ _ _) rfl rfl (ok_i M188 (I188 _ _ _) rfl rfl h_a1)).trans (bI_c fun v2 m1 => ?_)
  refine (x_aload1 D309_1436 rfl).trans ?_
  refine (x_aload1 D309_1437 rfl).trans ?_
  refine (x_iload2 D309_1438 rfl).trans ?_
  refine (x_iconst D309_1440 (k := 1) (by decide)).trans ?_
  refine (x_iadd D309_1441).trans ?_
  refine (x_iaload D309_1442).trans (ga_c ?_)
  refine (x_aload1 D309_1443 rfl).trans ?_
  refine (x_iload2 D309_1444 rfl).trans ?_
  refine (x_iconst D309_1446 (k := 2) (by decide)).trans ?_
  refine (x_iadd D309_1447).trans ?_
  refine (x_iaload D309_1448).trans (ga_c ?_)
  refine (x_cI D309_1449 M290 (fun z => by cases z) (I290 _ _ _) rfl rfl (ok_i M290 (I290 _ _ _) rfl rfl h_a2)).trans (bI_c fun v4 m3 => ?_)
  refine (x_ceq D309_1452).trans (i_c ?_ ?_)
  · rfl
  · refine (x_iconst D309_1455 (k := 0) (by decide)).trans ?_
    exact (x_bret D309_1456 M309.2.2.1).trans yB0
theorem La_law_1457_e (d : Nat) (a0 : Nat) (a1 : Nat) (a2 : Nat) (a3 : Nat) (x4 : Int32) (w5 : Value) (w6 : Value) (m : eM) (h_a1 : kd a1 = 9) (h_a2 : kd a2 = 10) : La_law_1457 (d + 1) a0 a1 a2 a3 x4 w5 w6 m = ga m a0 20 (x4 + (1 : Int32)) (bI (LC_told d a1 (gI m a0 (x4 + (1 : Int32)).toNatClampNeg) m) fun v2 m1 => ga m1 a0 20 (x4 + (1 : Int32)) (bI (Mo_told d a2 (gI m1 a0 (x4 + (1 : Int32)).toNatClampNeg) m1) fun v4 m3 => if v2 = v4 then (La_law_1818 (d + 1) a0 a1 a2 a3 x4 w5 w6 m3) else (yI (0 : Int32) m3))) := by
  unfold La_law_1457
  refine (x_aload1 D309_1457 rfl).trans ?_
  refine (x_aload1 D309_1458 rfl).trans ?_
  refine (x_iload2 D309_1459 rfl).trans ?_
  refine (x_iconst D309_1461 (k := 1) (by decide)).trans ?_
  refine (x_iadd D309_1462).trans ?_
  refine (x_iaload D309_1463).trans (ga_c ?_)
  refine (x_cI D309_1464 M191 (fun z => by cases z) (I191 _ _) rfl rfl (ok_i M191 (I191 _ _) rfl rfl h_a1)).trans (bI_c fun v2 m1 => ?_)
  refine (x_aload1 D309_1467 rfl).trans ?_
  refine (x_aload1 D309_1468 rfl).trans ?_
  refine (x_iload2 D309_1469 rfl).trans ?_
  refine (x_iconst D309_1471 (k := 1) (by decide)).trans ?_
  refine (x_iadd D309_1472).trans ?_
  refine (x_iaload D309_1473).trans (ga_c ?_)
  refine (x_cI D309_1474 M291 (fun z => by cases z) (I291 _ _) rfl rfl (ok_i M291 (I291 _ _) rfl rfl h_a2)).trans (bI_c fun v4 m3 => ?_)
  refine (x_ceq D309_1477).trans (i_c ?_ ?_)
  · rfl
  · refine (x_iconst D309_1480 (k := 0) (by decide)).trans ?_
    exact (x_bret D309_1481 M309.2.2.1).trans yB0
theorem La_law_1482_e (d : Nat) (a0 : Nat) (a1 : Nat) (a2 : Nat) (a3 : Nat) (x4 : Int32) (w5 : Value) (w6 : Value) (m : eM) (h_a1 : kd a1 = 9) (h_a2 : kd a2 = 10) : La_law_1482 (d + 1) a0 a1 a2 a3 x4 w5 w6 m = ga m a0 20 (x4 + (1 : Int32)) (ga m a0 20 (x4 + (2 : Int32)) (bI (LC_fewest d a1 (gI m a0 (x4 + (1 : Int32)).toNatClampNeg) (gI m a0 (x4 + (2 : Int32)).toNatClampNeg) m) fun v2 m1 => ga m1 a0 20 (x4 + (1 : Int32)) (ga m1 a0 20 (x4 + (2 : Int32)) (bI (Mo_fewest d a2 (gI m1 a0 (x4 + (1 : Int32)).toNatClampNeg) (gI m1 a0 (x4 + (2 : Int32)).toNatClampNeg) m1) fun v4 m3 => if v2 = v4 then (La_law_1818 (d + 1) a0 a1 a2 a3 x4 w5 w6 m3) else (yI (0 : Int32) m3))))) := by
  unfold La_law_1482
  refine (x_aload1 D309_1482 rfl).trans ?_
  refine (x_aload1 D309_1483 rfl).trans ?_
  refine (x_iload2 D309_1484 rfl).trans ?_
  refine (x_iconst D309_1486 (k := 1) (by decide)).trans ?_
  refine (x_iadd D309_1487).trans ?_
  refine (x_iaload D309_1488).trans (ga_c ?_)
  refine (x_aload1 D309_1489 rfl).trans ?_
  refine (x_iload2 D309_1490 rfl).trans ?_
  refine (x_iconst D309_1492 (k := 2) (by decide)).trans ?_
  refine (x_iadd D309_1493).trans ?_
  refine (x_iaload D309_1494).trans (ga_c ?_)
  refine (x_cI D309_1495 M193 (fun z => by cases z) (I193 _ _ _) rfl rfl (ok_i M193 (I193 _ _ _) rfl rfl h_a1)).trans (bI_c fun v2 m1 => ?_)
  refine (x_aload1 D309_1498 rfl).trans ?_
  refine (x_aload1 D309_1499 rfl).trans ?_
  refine (x_iload2 D309_1500 rfl).trans ?_
  refine (x_iconst D309_1502 (k := 1) (by decide)).trans ?_
  refine (x_iadd D309_1503).trans ?_
  refine (x_iaload D309_1504).trans (ga_c ?_)
  refine (x_aload1 D309_1505 rfl).trans ?_
  refine (x_iload2 D309_1506 rfl).trans ?_
  refine (x_iconst D309_1508 (k := 2) (by decide)).trans ?_
  refine (x_iadd D309_1509).trans ?_
  refine (x_iaload D309_1510).trans (ga_c ?_)
  refine (x_cI D309_1511 M293 (fun z => by cases z) (I293 _ _ _) rfl rfl (ok_i M293 (I293 _ _ _) rfl rfl h_a2)).trans (bI_c fun v4 m3 => ?_)
  refine (x_ceq D309_1514).trans (i_c ?_ ?_)
  · rfl
  · refine (x_iconst D309_1517 (k := 0) (by decide)).trans ?_
    exact (x_bret D309_1518 M309.2.2.1).trans yB0
theorem La_law_1519_e (d : Nat) (a0 : Nat) (a1 : Nat) (a2 : Nat) (a3 : Nat) (x4 : Int32) (w5 : Value) (w6 : Value) (m : eM) (h_a1 : kd a1 = 9) (h_a2 : kd a2 = 10) : La_law_1519 (d + 1) a0 a1 a2 a3 x4 w5 w6 m = ga m a0 20 (x4 + (1 : Int32)) (ga m a0 20 (x4 + (2 : Int32)) (bI (LC_person d a1 (gI m a0 (x4 + (1 : Int32)).toNatClampNeg) (gI m a0 (x4 + (2 : Int32)).toNatClampNeg) m) fun v2 m1 => ga m1 a0 20 (x4 + (1 : Int32)) (ga m1 a0 20 (x4 + (2 : Int32)) (bI (Mo_person d a2 (gI m1 a0 (x4 + (1 : Int32)).toNatClampNeg) (gI m1 a0 (x4 + (2 : Int32)).toNatClampNeg) m1) fun v4 m3 => if v2 = v4 then (La_law_1818 (d + 1) a0 a1 a2 a3 x4 w5 w6 m3) else (yI (0 : Int32) m3))))) := by
  unfold La_law_1519
  refine (x_aload1 D309_1519 rfl).trans ?_
  refine (x_aload1 D309_1520 rfl).trans ?_
  refine (x_iload2 D309_1521 rfl).trans ?_
  refine (x_iconst D309_1523 (k := 1) (by decide)).trans ?_
  refine (x_iadd D309_1524).trans ?_
  refine (x_iaload D309_1525).trans (ga_c ?_)
  refine (x_aload1 D309_1526 rfl).trans ?_
  refine (x_iload2 D309_1527 rfl).trans ?_
  refine (x_iconst D309_1529 (k := 2) (by decide)).trans ?_
  refine (x_iadd D309_1530).trans ?_
  refine (x_iaload D309_1531).trans (ga_c ?_)
  refine (x_cI D309_1532 M194 (fun z => by cases z) (I194 _ _ _) rfl rfl (ok_i M194 (I194 _ _ _) rfl rfl h_a1)).trans (bI_c fun v2 m1 => ?_)
  refine (x_aload1 D309_1535 rfl).trans ?_
  refine (x_aload1 D309_1536 rfl).trans ?_
  refine (x_iload2 D309_1537 rfl).trans ?_
  refine (x_iconst D309_1539 (k := 1) (by decide)).trans ?_
  refine (x_iadd D309_1540).trans ?_
  refine (x_iaload D309_1541).trans (ga_c ?_)
  refine (x_aload1 D309_1542 rfl).trans ?_
  refine (x_iload2 D309_1543 rfl).trans ?_
  refine (x_iconst D309_1545 (k := 2) (by decide)).trans ?_
  refine (x_iadd D309_1546).trans ?_
  refine (x_iaload D309_1547).trans (ga_c ?_)
  refine (x_cI D309_1548 M294 (fun z => by cases z) (I294 _ _ _) rfl rfl (ok_i M294 (I294 _ _ _) rfl rfl h_a2)).trans (bI_c fun v4 m3 => ?_)
  refine (x_ceq D309_1551).trans (i_c ?_ ?_)
  · rfl
  · refine (x_iconst D309_1554 (k := 0) (by decide)).trans ?_
    exact (x_bret D309_1555 M309.2.2.1).trans yB0
theorem La_law_1556_e (d : Nat) (a0 : Nat) (a1 : Nat) (a2 : Nat) (a3 : Nat) (x4 : Int32) (w5 : Value) (w6 : Value) (m : eM) (h_a1 : kd a1 = 9) (h_a2 : kd a2 = 10) : La_law_1556 (d + 1) a0 a1 a2 a3 x4 w5 w6 m = ga m a0 20 (x4 + (1 : Int32)) (ga m a0 20 (x4 + (2 : Int32)) (ga m a0 20 (x4 + (3 : Int32)) (bI (LC_lookout d a1 (gI m a0 (x4 + (1 : Int32)).toNatClampNeg) (gI m a0 (x4 + (2 : Int32)).toNatClampNeg) (gI m a0 (x4 + (3 : Int32)).toNatClampNeg) m) fun v2 m1 => ga m1 a0 20 (x4 + (1 : Int32)) (ga m1 a0 20 (x4 + (2 : Int32)) (ga m1 a0 20 (x4 + (3 : Int32)) (bI (Mo_lookout d a2 (gI m1 a0 (x4 + (1 : Int32)).toNatClampNeg) (gI m1 a0 (x4 + (2 : Int32)).toNatClampNeg) (gI m1 a0 (x4 + (3 : Int32)).toNatClampNeg) m1) fun v4 m3 => if v2 = v4 then (La_law_1818 (d + 1) a0 a1 a2 a3 x4 w5 w6 m3) else (yI (0 : Int32) m3))))))) := by
  unfold La_law_1556
  refine (x_aload1 D309_1556 rfl).trans ?_
  refine (x_aload1 D309_1557 rfl).trans ?_
  refine (x_iload2 D309_1558 rfl).trans ?_
  refine (x_iconst D309_1560 (k := 1) (by decide)).trans ?_
  refine (x_iadd D309_1561).trans ?_
  refine (x_iaload D309_1562).trans (ga_c ?_)
  refine (x_aload1 D309_1563 rfl).trans ?_
  refine (x_iload2 D309_1564 rfl).trans ?_
  refine (x_iconst D309_1566 (k := 2) (by decide)).trans ?_
  refine (x_iadd D309_1567).trans ?_
  refine (x_iaload D309_1568).trans (ga_c ?_)
  refine (x_aload1 D309_1569 rfl).trans ?_
  refine (x_iload2 D309_1570 rfl).trans ?_
  refine (x_iconst D309_1572 (k := 3) (by decide)).trans ?_
  refine (x_iadd D309_1573).trans ?_
  refine (x_iaload D309_1574).trans (ga_c ?_)
  refine (x_cI D309_1575 M150 (fun z => by cases z) (I150 _ _ _ _) rfl rfl (ok_i M150 (I150 _ _ _ _) rfl rfl h_a1)).trans (bI_c fun v2 m1 => ?_)
  refine (x_aload1 D309_1578 rfl).trans ?_
  refine (x_aload1 D309_1579 rfl).trans ?_
  refine (x_iload2 D309_1580 rfl).trans ?_
  refine (x_iconst D309_1582 (k := 1) (by decide)).trans ?_
  refine (x_iadd D309_1583).trans ?_
  refine (x_iaload D309_1584).trans (ga_c ?_)
  refine (x_aload1 D309_1585 rfl).trans ?_
  refine (x_iload2 D309_1586 rfl).trans ?_
  refine (x_iconst D309_1588 (k := 2) (by decide)).trans ?_
  refine (x_iadd D309_1589).trans ?_
  refine (x_iaload D309_1590).trans (ga_c ?_)
  refine (x_aload1 D309_1591 rfl).trans ?_
  refine (x_iload2 D309_1592 rfl).trans ?_
  refine (x_iconst D309_1594 (k := 3) (by decide)).trans ?_
  refine (x_iadd D309_1595).trans ?_
  refine (x_iaload D309_1596).trans (ga_c ?_)
  refine (x_cI D309_1597 M295 (fun z => by cases z) (I295 _ _ _ _) rfl rfl (ok_i M295 (I295 _ _ _ _) rfl rfl h_a2)).trans (bI_c fun v4 m3 => ?_)
  refine (x_ceq D309_1600).trans (i_c ?_ ?_)
  · rfl
  · refine (x_iconst D309_1603 (k := 0) (by decide)).trans ?_
    exact (x_bret D309_1604 M309.2.2.1).trans yB0
theorem La_law_1605_e (d : Nat) (a0 : Nat) (a1 : Nat) (a2 : Nat) (a3 : Nat) (x4 : Int32) (w5 : Value) (w6 : Value) (m : eM) (h_a1 : kd a1 = 9) (h_a2 : kd a2 = 10) : La_law_1605 (d + 1) a0 a1 a2 a3 x4 w5 w6 m = ga m a0 20 (x4 + (1 : Int32)) (ga m a0 20 (x4 + (2 : Int32)) (bI (LC_move d a1 (gI m a0 (x4 + (1 : Int32)).toNatClampNeg) (gI m a0 (x4 + (2 : Int32)).toNatClampNeg) m) fun v2 m1 => ga m1 a0 20 (x4 + (1 : Int32)) (ga m1 a0 20 (x4 + (2 : Int32)) (bI (Mo_move d a2 (gI m1 a0 (x4 + (1 : Int32)).toNatClampNeg) (gI m1 a0 (x4 + (2 : Int32)).toNatClampNeg) m1) fun v4 m3 => if v2 = v4 then (La_law_1818 (d + 1) a0 a1 a2 a3 x4 w5 w6 m3) else (yI (0 : Int32) m3))))) := by
  unfold La_law_1605
  refine (x_aload1 D309_1605 rfl).trans ?_
  refine (x_aload1 D309_1606 rfl).trans ?_
  refine (x_iload2 D309_1607 rfl).trans ?_
  refine (x_iconst D309_1609 (k := 1) (by decide)).trans ?_
  refine (x_iadd D309_1610).trans ?_
  refine (x_iaload D309_1611).trans (ga_c ?_)
  refine (x_aload1 D309_1612 rfl).trans ?_
  refine (x_iload2 D309_1613 rfl).trans ?_
  refine (x_iconst D309_1615 (k := 2) (by decide)).trans ?_
  refine (x_iadd D309_1616).trans ?_
  refine (x_iaload D309_1617).trans (ga_c ?_)
  refine (x_cI D309_1618 M177 (fun z => by cases z) (I177 _ _ _) rfl rfl (ok_i M177 (I177 _ _ _) rfl rfl h_a1)).trans (bI_c fun v2 m1 => ?_)
  refine (x_aload1 D309_1621 rfl).trans ?_
  refine (x_aload1 D309_1622 rfl).trans ?_
  refine (x_iload2 D309_1623 rfl).trans ?_
  refine (x_iconst D309_1625 (k := 1) (by decide)).trans ?_
  refine (x_iadd D309_1626).trans ?_
  refine (x_iaload D309_1627).trans (ga_c ?_)
  refine (x_aload1 D309_1628 rfl).trans ?_
  refine (x_iload2 D309_1629 rfl).trans ?_
  refine (x_iconst D309_1631 (k := 2) (by decide)).trans ?_
  refine (x_iadd D309_1632).trans ?_
  refine (x_iaload D309_1633).trans (ga_c ?_)
  refine (x_cI D309_1634 M300 (fun z => by cases z) (I300 _ _ _) rfl rfl (ok_i M300 (I300 _ _ _) rfl rfl h_a2)).trans (bI_c fun v4 m3 => ?_)
  refine (x_ceq D309_1637).trans (i_c ?_ ?_)
  · rfl
  · refine (x_iconst D309_1640 (k := 0) (by decide)).trans ?_
    exact (x_bret D309_1641 M309.2.2.1).trans yB0
theorem La_law_1642_e (d : Nat) (a0 : Nat) (a1 : Nat) (a2 : Nat) (a3 : Nat) (x4 : Int32) (w5 : Value) (w6 : Value) (m : eM) (h_a1 : kd a1 = 9) (h_a2 : kd a2 = 10) : La_law_1642 (d + 1) a0 a1 a2 a3 x4 w5 w6 m = ga m a0 20 (x4 + (1 : Int32)) (ga m a0 20 (x4 + (2 : Int32)) (ga m a0 20 (x4 + (3 : Int32)) (ga m a0 20 (x4 + (4 : Int32)) (bI (LC_longest d a1 (gI m a0 (x4 + (1 : Int32)).toNatClampNeg) (gI m a0 (x4 + (2 : Int32)).toNatClampNeg) (gI m a0 (x4 + (3 : Int32)).toNatClampNeg) (gI m a0 (x4 + (4 : Int32)).toNatClampNeg) m) fun v2 m1 => ga m1 a0 20 (x4 + (1 : Int32)) (ga m1 a0 20 (x4 + (2 : Int32)) (ga m1 a0 20 (x4 + (3 : Int32)) (ga m1 a0 20 (x4 + (4 : Int32)) (bI (Mo_longest d a2 (gI m1 a0 (x4 + (1 : Int32)).toNatClampNeg) (gI m1 a0 (x4 + (2 : Int32)).toNatClampNeg) (gI m1 a0 (x4 + (3 : Int32)).toNatClampNeg) (gI m1 a0 (x4 + (4 : Int32)).toNatClampNeg) m1) fun v4 m3 => if v2 = v4 then (La_law_1818 (d + 1) a0 a1 a2 a3 x4 w5 w6 m3) else (yI (0 : Int32) m3))))))))) := by
  unfold La_law_1642
  refine (x_aload1 D309_1642 rfl).trans ?_
  refine (x_aload1 D309_1643 rfl).trans ?_
  refine (x_iload2 D309_1644 rfl).trans ?_
  refine (x_iconst D309_1646 (k := 1) (by decide)).trans ?_
  refine (x_iadd D309_1647).trans ?_
  refine (x_iaload D309_1648).trans (ga_c ?_)
  refine (x_aload1 D309_1649 rfl).trans ?_
  refine (x_iload2 D309_1650 rfl).trans ?_
  refine (x_iconst D309_1652 (k := 2) (by decide)).trans ?_
  refine (x_iadd D309_1653).trans ?_
  refine (x_iaload D309_1654).trans (ga_c ?_)
  refine (x_aload1 D309_1655 rfl).trans ?_
  refine (x_iload2 D309_1656 rfl).trans ?_
  refine (x_iconst D309_1658 (k := 3) (by decide)).trans ?_
  refine (x_iadd D309_1659).trans ?_
  refine (x_iaload D309_1660).trans (ga_c ?_)
  refine (x_aload1 D309_1661 rfl).trans ?_
  refine (x_iload2 D309_1662 rfl).trans ?_
  refine (x_iconst D309_1664 (k := 4) (by decide)).trans ?_
  refine (x_iadd D309_1665).trans ?_
  refine (x_iaload D309_1666).trans (ga_c ?_)
  refine (x_cI D309_1667 M173 (fun z => by cases z) (I173 _ _ _ _ _) rfl rfl (ok_i M173 (I173 _ _ _ _ _) rfl rfl h_a1)).trans (bI_c fun v2 m1 => ?_)
  refine (x_aload1 D309_1670 rfl).trans ?_
  refine (x_aload1 D309_1671 rfl).trans ?_
  refine (x_iload2 D309_1672 rfl).trans ?_
  refine (x_iconst D309_1674 (k := 1) (by decide)).trans ?_
  refine (x_iadd D309_1675).trans ?_
  refine (x_iaload D309_1676).trans (ga_c ?_)
  refine (x_aload1 D309_1677 rfl).trans ?_
  refine (x_iload2 D309_1678 rfl).trans ?_
  refine (x_iconst D309_1680 (k := 2) (by decide)).trans ?_
  refine (x_iadd D309_1681).trans ?_
  refine (x_iaload D309_1682).trans (ga_c ?_)
  refine (x_aload1 D309_1683 rfl).trans ?_
  refine (x_iload2 D309_1684 rfl).trans ?_
  refine (x_iconst D309_1686 (k := 3) (by decide)).trans ?_
  refine (x_iadd D309_1687).trans ?_
  refine (x_iaload D309_1688).trans (ga_c ?_)
  refine (x_aload1 D309_1689 rfl).trans ?_
  refine (x_iload2 D309_1690 rfl).trans ?_
  refine (x_iconst D309_1692 (k := 4) (by decide)).trans ?_
  refine (x_iadd D309_1693).trans ?_
  refine (x_iaload D309_1694).trans (ga_c ?_)
  refine (x_cI D309_1695 M301 (fun z => by cases z) (I301 _ _ _ _ _) rfl rfl (ok_i M301 (I301 _ _ _ _ _) rfl rfl h_a2)).trans (bI_c fun v4 m3 => ?_)
  refine (x_ceq D309_1698).trans (i_c ?_ ?_)
  · rfl
  · refine (x_iconst D309_1701 (k := 0) (by decide)).trans ?_
    exact (x_bret D309_1702 M309.2.2.1).trans yB0
theorem La_law_1703_e (d : Nat) (a0 : Nat) (a1 : Nat) (a2 : Nat) (a3 : Nat) (x4 : Int32) (w5 : Value) (w6 : Value) (m : eM) (h_a1 : kd a1 = 9) (h_a2 : kd a2 = 10) : La_law_1703 (d + 1) a0 a1 a2 a3 x4 w5 w6 m = ga m a0 20 (x4 + (1 : Int32)) (ga m a0 20 (x4 + (2 : Int32)) (bI (LC_differ d a1 (gI m a0 (x4 + (1 : Int32)).toNatClampNeg) (gI m a0 (x4 + (2 : Int32)).toNatClampNeg) m) fun v2 m1 => ga m1 a0 20 (x4 + (1 : Int32)) (ga m1 a0 20 (x4 + (2 : Int32)) (bI (Mo_differ d a2 (gI m1 a0 (x4 + (1 : Int32)).toNatClampNeg) (gI m1 a0 (x4 + (2 : Int32)).toNatClampNeg) m1) fun v4 m3 => if v2 = v4 then (La_law_1818 (d + 1) a0 a1 a2 a3 x4 w5 w6 m3) else (yI (0 : Int32) m3))))) := by
  unfold La_law_1703
  refine (x_aload1 D309_1703 rfl).trans ?_
  refine (x_aload1 D309_1704 rfl).trans ?_
  refine (x_iload2 D309_1705 rfl).trans ?_
  refine (x_iconst D309_1707 (k := 1) (by decide)).trans ?_
  refine (x_iadd D309_1708).trans ?_
  refine (x_iaload D309_1709).trans (ga_c ?_)
  refine (x_aload1 D309_1710 rfl).trans ?_
  refine (x_iload2 D309_1711 rfl).trans ?_
  refine (x_iconst D309_1713 (k := 2) (by decide)).trans ?_
  refine (x_iadd D309_1714).trans ?_
  refine (x_iaload D309_1715).trans (ga_c ?_)
  refine (x_cI D309_1716 M175 (fun z => by cases z) (I175 _ _ _) rfl rfl (ok_i M175 (I175 _ _ _) rfl rfl h_a1)).trans (bI_c fun v2 m1 => ?_)
  refine (x_aload1 D309_1719 rfl).trans ?_
  refine (x_aload1 D309_1720 rfl).trans ?_
  refine (x_iload2 D309_1721 rfl).trans ?_
  refine (x_iconst D309_1723 (k := 1) (by decide)).trans ?_
  refine (x_iadd D309_1724).trans ?_
  refine (x_iaload D309_1725).trans (ga_c ?_)
  refine (x_aload1 D309_1726 rfl).trans ?_
  refine (x_iload2 D309_1727 rfl).trans ?_
  refine (x_iconst D309_1729 (k := 2) (by decide)).trans ?_
  refine (x_iadd D309_1730).trans ?_
  refine (x_iaload D309_1731).trans (ga_c ?_)
  refine (x_cI D309_1732 M302 (fun z => by cases z) (I302 _ _ _) rfl rfl (ok_i M302 (I302 _ _ _) rfl rfl h_a2)).trans (bI_c fun v4 m3 => ?_)
  refine (x_ceq D309_1735).trans (i_c ?_ ?_)
  · rfl
  · refine (x_iconst D309_1738 (k := 0) (by decide)).trans ?_
    exact (x_bret D309_1739 M309.2.2.1).trans yB0
theorem La_law_1740_e (d : Nat) (a0 : Nat) (a1 : Nat) (a2 : Nat) (a3 : Nat) (x4 : Int32) (w5 : Value) (w6 : Value) (m : eM) (h_a1 : kd a1 = 9) (h_a2 : kd a2 = 10) : La_law_1740 (d + 1) a0 a1 a2 a3 x4 w5 w6 m = ga m a0 20 (x4 + (1 : Int32)) (ga m a0 20 (x4 + (2 : Int32)) (if (gI m a0 (x4 + (2 : Int32)).toNatClampNeg) = 0 then (La_law_1761 (d + 1) a0 a1 a2 a3 x4 w5 w6 a1 (gI m a0 (x4 + (1 : Int32)).toNatClampNeg) (0 : Int32) m) else (La_law_1761 (d + 1) a0 a1 a2 a3 x4 w5 w6 a1 (gI m a0 (x4 + (1 : Int32)).toNatClampNeg) (1 : Int32) m))) := by
  unfold La_law_1740
  refine (x_aload1 D309_1740 rfl).trans ?_
  refine (x_aload1 D309_1741 rfl).trans ?_
  refine (x_iload2 D309_1742 rfl).trans ?_
  refine (x_iconst D309_1744 (k := 1) (by decide)).trans ?_
  refine (x_iadd D309_1745).trans ?_
  refine (x_iaload D309_1746).trans (ga_c ?_)
  refine (x_aload1 D309_1747 rfl).trans ?_
  refine (x_iload2 D309_1748 rfl).trans ?_
  refine (x_iconst D309_1750 (k := 2) (by decide)).trans ?_
  refine (x_iadd D309_1751).trans ?_
  refine (x_iaload D309_1752).trans (ga_c ?_)
  refine (x_ifeq D309_1753).trans (i_c ?_ ?_)
  · refine (x_iconst D309_1760 (k := 0) (by decide)).trans ?_
    rfl
  · refine (x_iconst D309_1756 (k := 1) (by decide)).trans ?_
    refine (x_goto D309_1757).trans ?_
    rfl
theorem La_law_1761_e (d : Nat) (a0 : Nat) (a1 : Nat) (a2 : Nat) (a3 : Nat) (x4 : Int32) (w5 : Value) (w6 : Value) (b0 : Nat) (p1 : Int32) (p2 : Int32) (m : eM) (h_a1 : kd a1 = 9) (h_a2 : kd a2 = 10) (h_b0 : kd b0 = 9) : La_law_1761 (d + 1) a0 a1 a2 a3 x4 w5 w6 b0 p1 p2 m = bI (LC_mark d b0 p1 p2 m) fun v2 m1 => ga m1 a0 20 (x4 + (1 : Int32)) (ga m1 a0 20 (x4 + (2 : Int32)) (if (gI m1 a0 (x4 + (2 : Int32)).toNatClampNeg) = 0 then (bI (Mo_mark d a2 (gI m1 a0 (x4 + (1 : Int32)).toNatClampNeg) (0 : Int32) m1) fun v4 m3 => if v2 = v4 then (La_law_1818 (d + 1) a0 a1 a2 a3 x4 w5 w6 m3) else (yI (0 : Int32) m3)) else (bI (Mo_mark d a2 (gI m1 a0 (x4 + (1 : Int32)).toNatClampNeg) (1 : Int32) m1) fun v6 m5 => if v2 = v6 then (La_law_1818 (d + 1) a0 a1 a2 a3 x4 w5 w6 m5) else (yI (0 : Int32) m5)))) := by
  unfold La_law_1761
  refine (x_cI D309_1761 M196 (fun z => by cases z) (I196 _ _ _) rfl rfl (ok_i M196 (I196 _ _ _) rfl rfl h_b0)).trans (bI_c fun v2 m1 => ?_)
  refine (x_aload1 D309_1764 rfl).trans ?_
  refine (x_aload1 D309_1765 rfl).trans ?_
  refine (x_iload2 D309_1766 rfl).trans ?_
  refine (x_iconst D309_1768 (k := 1) (by decide)).trans ?_
  refine (x_iadd D309_1769).trans ?_
  refine (x_iaload D309_1770).trans (ga_c ?_)
  refine (x_aload1 D309_1771 rfl).trans ?_
  refine (x_iload2 D309_1772 rfl).trans ?_
  refine (x_iconst D309_1774 (k := 2) (by decide)).trans ?_
  refine (x_iadd D309_1775).trans ?_
  refine (x_iaload D309_1776).trans (ga_c ?_)
  refine (x_ifeq D309_1777).trans (i_c ?_ ?_)
  · refine (x_iconst D309_1784 (k := 0) (by decide)).trans ?_
    refine (x_cI D309_1785 M303 (fun z => by cases z) (I303 _ _ _) rfl rfl (ok_i M303 (I303 _ _ _) rfl rfl h_a2)).trans (bI_c fun v4 m3 => ?_)
    refine (x_ceq D309_1788).trans (i_c ?_ ?_)
    · rfl
    · refine (x_iconst D309_1791 (k := 0) (by decide)).trans ?_
      exact (x_bret D309_1792 M309.2.2.1).trans yB0
  · refine (x_iconst D309_1780 (k := 1) (by decide)).trans ?_
    refine (x_goto D309_1781).trans ?_
    refine (x_cI D309_1785 M303 (fun z => by cases z) (I303 _ _ _) rfl rfl (ok_i M303 (I303 _ _ _) rfl rfl h_a2)).trans (bI_c fun v6 m5 => ?_)
    refine (x_ceq D309_1788).trans (i_c ?_ ?_)
    · rfl
    · refine (x_iconst D309_1791 (k := 0) (by decide)).trans ?_
      exact (x_bret D309_1792 M309.2.2.1).trans yB0
theorem La_law_1793_e (d : Nat) (a0 : Nat) (a1 : Nat) (a2 : Nat) (a3 : Nat) (x4 : Int32) (w5 : Value) (w6 : Value) (m : eM) (h_a1 : kd a1 = 9) (h_a2 : kd a2 = 10) : La_law_1793 (d + 1) a0 a1 a2 a3 x4 w5 w6 m = ga m a0 20 (x4 + (1 : Int32)) (bI (LC_count d a1 (gI m a0 (x4 + (1 : Int32)).toNatClampNeg) m) fun v2 m1 => ga m1 a0 20 (x4 + (1 : Int32)) (bI (Mo_count d a2 (gI m1 a0 (x4 + (1 : Int32)).toNatClampNeg) m1) fun v4 m3 => if v2 = v4 then (La_law_1818 (d + 1) a0 a1 a2 a3 x4 w5 w6 m3) else (yI (0 : Int32) m3))) := by
  unfold La_law_1793
  refine (x_aload1 D309_1793 rfl).trans ?_
  refine (x_aload1 D309_1794 rfl).trans ?_
  refine (x_iload2 D309_1795 rfl).trans ?_
  refine (x_iconst D309_1797 (k := 1) (by decide)).trans ?_
  refine (x_iadd D309_1798).trans ?_
  refine (x_iaload D309_1799).trans (ga_c ?_)
  refine (x_cI D309_1800 M199 (fun z => by cases z) (I199 _ _) rfl rfl (ok_i M199 (I199 _ _) rfl rfl h_a1)).trans (bI_c fun v2 m1 => ?_)
  refine (x_aload1 D309_1803 rfl).trans ?_
  refine (x_aload1 D309_1804 rfl).trans ?_
  refine (x_iload2 D309_1805 rfl).trans ?_
  refine (x_iconst D309_1807 (k := 1) (by decide)).trans ?_
  refine (x_iadd D309_1808).trans ?_
  refine (x_iaload D309_1809).trans (ga_c ?_)
  refine (x_cI D309_1810 M307 (fun z => by cases z) (I307 _ _) rfl rfl (ok_i M307 (I307 _ _) rfl rfl h_a2)).trans (bI_c fun v4 m3 => ?_)
  refine (x_ceq D309_1813).trans (i_c ?_ ?_)
  · rfl
  · refine (x_iconst D309_1816 (k := 0) (by decide)).trans ?_
    exact (x_bret D309_1817 M309.2.2.1).trans yB0
theorem La_law_1818_e (d : Nat) (a0 : Nat) (a1 : Nat) (a2 : Nat) (a3 : Nat) (x4 : Int32) (w5 : Value) (w6 : Value) (m : eM) (h_a1 : kd a1 = 9) (h_a2 : kd a2 = 10) : La_law_1818 (d + 1) a0 a1 a2 a3 x4 w5 w6 m = La_law_23 (d + 1) a0 a1 a2 a3 (x4 + (7 : Int32)) w5 w6 m := by
  unfold La_law_1818
  refine (x_iinc D309_1818 rfl (k := 7) (by decide) (ls' := [.ref a0, .ref a1, .ref a2, .ref a3, .int (x4 + (7 : Int32)), w5, w6, eU]) rfl).trans ?_
  refine (x_goto D309_1821).trans ?_
  rfl
