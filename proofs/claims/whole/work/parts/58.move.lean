/-! ===== MOVE ===== -/
theorem nI_mul (a b : Nat) : nI a * nI b = nI (a * b) := (Int32.ofNat_mul a b).symm
theorem yI_ite {c : Prop} [Decidable c] (a b : Int32) (m : eM) : (if c then yI a m else yI b m) = yI (if c then a else b) m := by
  by_cases h : c
  · rw [if_pos h, if_pos h]
  · rw [if_neg h, if_neg h]
def mvS (v : eV) (k : Nat) : Int64 := mk fun w => decide (w < 2 ^ nF v) && (w.testBit (k / 2) == decide (k % 2 = 0))
def mvB (v : eV) (L p k : Nat) : Bool := tb (lieG v (mvS v k) L p) (tru v)
def mvK (v : eV) (L : Nat) (x : Int32) (k : Nat) : Bool := !decide (nI (k / 12) = x) && (decide (k % 12 / 2 < nF v) && mvB v L (k / 12) (k % 12))
def mvF (v : eV) (L : Nat) (x : Int32) : Nat → Nat → Int32
  | 0, _ => -1
  | j + 1, k => if mvK v L x k = true then nI k else mvF v L x j (k + 1)
theorem mvF_s (v : eV) (L : Nat) (x : Int32) (j k : Nat) : mvF v L x (j + 1) k = if mvK v L x k = true then nI k else mvF v L x j (k + 1) := rfl
def flF (v : eV) (L p : Nat) : Nat → Nat → Int32
  | 0, _ => -1
  | j + 1, k => if mvB v L p k = true then nI k else flF v L p j (k + 1)
theorem flF_s (v : eV) (L p j k : Nat) : flF v L p (j + 1) k = if mvB v L p k = true then nI k else flF v L p j (k + 1) := rfl
def sp_move (v : eV) (c x : Int32) : Int32 := if thr v c = true then (if perQ v x = true then mvF v (lawV v c.toNatClampNeg) x (12 * nP v) 0 else -1) else -1
theorem nI_nm1 {k : Nat} (h : k < 2147483648) : ¬ nI k = -1 := fun q => by
  have := congrArg Int32.toInt q
  rw [nI_toInt h] at this
  have e1 : (-1 : Int32).toInt = -1 := by decide
  omega
theorem mvF_skip {v : eV} {L p : Nat} {x : Int32} (hx : nI p = x) (J : Nat) : ∀ j i, i + j = 12 → mvF v L x (j + J) (12 * p + i) = mvF v L x J (12 * (p + 1))
  | 0, i, e => by rw [show 0 + J = J by omega, show 12 * p + i = 12 * (p + 1) by omega]
  | j + 1, i, e => by
    have ih := mvF_skip (v := v) (L := L) hx J j (i + 1) (by omega)
    have ek : mvK v L x (12 * p + i) = false := by
      unfold mvK
      rw [show (12 * p + i) / 12 = p by omega, decide_eq_true hx]
      rfl
    rw [show j + 1 + J = j + J + 1 by omega, mvF_s, ek, if_neg (by decide), show 12 * p + i + 1 = 12 * p + (i + 1) by omega, ih]
theorem mvF_one {v : eV} (hF : nF v ≤ 6) {L p : Nat} {x : Int32} (hx : ¬ nI p = x) (J : Nat) : ∀ j i, i + j = 12 → mvF v L x (j + J) (12 * p + i) = if flF v L p (2 * nF v - i) i = -1 then mvF v L x J (12 * (p + 1)) else nI (12 * p) + flF v L p (2 * nF v - i) i
  | 0, i, e => by
    rw [show 2 * nF v - i = 0 by omega, if_pos (show flF v L p 0 i = -1 from rfl), show 0 + J = J by omega, show 12 * p + i = 12 * (p + 1) by omega]
  | j + 1, i, e => by
    have ih := mvF_one hF (L := L) hx J j (i + 1) (by omega)
    rw [show j + 1 + J = j + J + 1 by omega, mvF_s]
    have ek : mvK v L x (12 * p + i) = (decide (i / 2 < nF v) && mvB v L p i) := by
      unfold mvK
      rw [show (12 * p + i) / 12 = p by omega, show (12 * p + i) % 12 = i by omega, decide_eq_false hx]
      rfl
    rw [ek]
    by_cases z : i < 2 * nF v
    · obtain ⟨n, hn⟩ : ∃ n, 2 * nF v - i = n + 1 := ⟨2 * nF v - i - 1, by omega⟩
      rw [show 2 * nF v - (i + 1) = n by omega] at ih
      rw [decide_eq_true (show i / 2 < nF v by omega), Bool.true_and, hn, flF_s]
      by_cases y : mvB v L p i = true
      · rw [if_pos y, if_pos y, if_neg (nI_nm1 (by omega)), nI_add]
      · rw [if_neg y, if_neg y, show 12 * p + i + 1 = 12 * p + (i + 1) by omega, ih]
    · rw [show 2 * nF v - (i + 1) = 0 by omega] at ih
      rw [decide_eq_false (show ¬ i / 2 < nF v by omega), Bool.false_and, if_neg (by decide), show 12 * p + i + 1 = 12 * p + (i + 1) by omega, ih, show 2 * nF v - i = 0 by omega]
      rfl
/-! the reference -/
theorem Mo_isLie_w {v : eV} (hv : Va v) {m : eM} (h : Mp v m) (hs : Sk m) {D : Nat} (hD : 2 ≤ D) {i l w : Nat} (hi : i < 31) (i2 : gI m 237 i = nI (who v i)) (i4 : gI m 240 i = nI (isq v i)) (i5 : gL m 239 i = soV v i) (i6 : who v i < nP v) (i8 : isq v i ≤ 1) (hl : l < 2) (hw : w < 64) : Mo_isLie D 208 (nI i) (nI l) (nI w) m = yI (bb (lieV v i l w)) m := by
  obtain ⟨d, rfl⟩ : ∃ d, D = d + 2 := ⟨D - 2, by omega⟩
  have hf := hv.f; have hpl := hv.pl; have hp := hv.p; have hcm := hv.cm; have hss := hv.s; have hoo := hv.o; have hll := hv.l; have hww := hv.wt; have hW := W_le hv; have hW0 := @W_pos v; have htr := hv.tr
  have hk := hv.kn i6
  rw [Mo_isLie_e _ _ _ _ _ _ kd_208]
  simp (disch := first | assumption | omega) only [bR_s, bI_y, bL_y, bV_y, mI_u, mJ_u, mQ_u, lI_u, lL_u, toI, gI_sI, gI_sL, gL_sI, gL_sL, gR_sI, gR_sL, bb_0, bb_1, n_lt0, n_ge0, n_eq, n_le, n_lt, n_eq0, n_eq1, n_le0, n_cl, n_cl0, n_cl1, nI_1, nI_add, false_and, and_false, true_and, and_true, if_true, if_false, not_true, not_false_iff, Classical.not_not, eq_self, Bool.false_eq_true, not_lt_zero, Nat.reduceEqDiff, Nat.reduceAdd, Nat.reduceSub, Nat.reduceMul, Nat.reduceLeDiff, Nat.reduceLT, l_2, l_3, l_4, l_5, l_6, l_7, l_8, l_9, l_10, l_12, l_15, l_16, l_18, l_20, l_21, l_22, l_24, l_25, l_26, l_27, l_28, l_29, l_30, l_32, l_36, l_40, l_41, l_42, l_43, l_45, l_48, l_56, l_57, l_59, l_60, l_61, l_62, l_63, l_64, l_97, l_99, l_100, l_122, l_126, l_127, l_168, l_180, l_255, l_300, l_359, l_360, l_400, l_1000, l_1200, l_1439, l_1440, l_1536, l_4096, rf_208_2, rf_208_10, rf_208_11, rf_208_12, rf_208_13, rf_208_14, rf_208_15, rf_208_16, rf_208_17, rf_208_18, rf_208_19, rf_208_20, rf_208_21, rf_208_22, rf_208_24, rf_208_25, rf_208_26, rf_208_27, rf_208_28, rf_208_29, rf_208_30, rf_208_31, rf_208_32, rf_208_33, rf_208_34, rf_208_35, rf_208_36, rf_208_39, rf_208_45, rf_208_46, rf_208_47, rf_208_48, rf_208_49, rf_208_51, rf_208_52, rf_208_53, rf_208_54, rf_208_55, rf_208_56, rf_208_57, rf_208_58, rf_208_59, rf_208_60, rf_208_62, rf_208_63, rf_208_64, rf_208_65, rf_208_66, rf_208_67, gl_209, ga_209, gw_209, al_209, gz_209, gy_209, gx_209, gl_210, ga_210, gw_210, al_210, gz_210, gy_210, gx_210, gl_211, ga_211, gw_211, al_211, gz_211, gy_211, gx_211, gl_212, ga_212, gw_212, al_212, gz_212, gy_212, gx_212, gl_213, ga_213, gw_213, al_213, gz_213, gy_213, gx_213, gl_214, ga_214, gw_214, al_214, gz_214, gy_214, gx_214, gl_215, ga_215, gw_215, al_215, gz_215, gy_215, gx_215, gl_216, ga_216, gw_216, al_216, gz_216, gy_216, gx_216, gl_217, ga_217, gw_217, al_217, gz_217, gy_217, gx_217, gl_218, ga_218, gw_218, al_218, gz_218, gy_218, gx_218, gl_219, ga_219, gw_219, al_219, gz_219, gy_219, gx_219, gl_220, ga_220, gw_220, al_220, gz_220, gy_220, gx_220, gl_221, ga_221, gw_221, al_221, gz_221, gy_221, gx_221, gl_222, ga_222, gw_222, al_222, gz_222, gy_222, gx_222, gl_223, ga_223, gw_223, al_223, gz_223, gy_223, gx_223, gl_224, ga_224, gw_224, al_224, gz_224, gy_224, gx_224, gl_225, ga_225, gw_225, al_225, gz_225, gy_225, gx_225, gl_226, ga_226, gw_226, al_226, gz_226, gy_226, gx_226, gl_227, ga_227, gw_227, al_227, gz_227, gy_227, gx_227, gl_228, ga_228, gw_228, al_228, gz_228, gy_228, gx_228, gl_229, ga_229, gw_229, al_229, gz_229, gy_229, gx_229, gl_230, ga_230, gw_230, al_230, gz_230, gy_230, gx_230, gl_231, ga_231, gw_231, al_231, gz_231, gy_231, gx_231, gl_232, ga_232, gw_232, al_232, gz_232, gy_232, gx_232, gl_233, ga_233, gw_233, al_233, gz_233, gy_233, gx_233, gl_234, ga_234, gw_234, al_234, gz_234, gy_234, gx_234, gl_235, ga_235, gw_235, al_235, gz_235, gy_235, gx_235, gl_236, ga_236, gw_236, al_236, gz_236, gy_236, gx_236, gl_237, ga_237, gw_237, al_237, gz_237, gy_237, gx_237, gl_238, ga_238, gw_238, al_238, gz_238, gy_238, gx_238, gl_239, ga_239, gw_239, al_239, gz_239, gy_239, gx_239, gl_240, ga_240, gw_240, al_240, gz_240, gy_240, gx_240, gl_241, ga_241, gw_241, al_241, gz_241, gy_241, gx_241, gl_242, ga_242, gw_242, al_242, gz_242, gy_242, gx_242, gl_243, ga_243, gw_243, al_243, gz_243, gy_243, gx_243, gl_244, ga_244, gw_244, al_244, gz_244, gy_244, gx_244, gl_245, ga_245, gw_245, al_245, gz_245, gy_245, gx_245, gl_246, ga_246, gw_246, al_246, gz_246, gy_246, gx_246, gl_247, ga_247, gw_247, al_247, gz_247, gy_247, gx_247, gl_248, ga_248, gw_248, al_248, gz_248, gy_248, gx_248, gl_249, ga_249, gw_249, al_249, gz_249, gy_249, gx_249, gl_250, ga_250, gw_250, al_250, gz_250, gy_250, gx_250, gl_251, ga_251, gw_251, al_251, gz_251, gy_251, gx_251, gl_252, ga_252, gw_252, al_252, gz_252, gy_252, gx_252, gl_253, ga_253, gw_253, al_253, gz_253, gy_253, gx_253, gl_254, ga_254, gw_254, al_254, gz_254, gy_254, gx_254, gl_255, ga_255, gw_255, al_255, gz_255, gy_255, gx_255, gl_256, ga_256, gw_256, al_256, gz_256, gy_256, gx_256, gl_257, ga_257, gw_257, al_257, gz_257, gy_257, gx_257, mp_f, mp_pl, mp_p, mp_cm, mp_s, mp_o, mp_l, mp_w, mp_t, mp_cha, mp_bea, mp_hom, mp_kno, mp_law, mp_lat, mp_isc, mp_who, mp_whn, mp_isq, mp_so, mp_com, mp_lc, mp_lm, mp_lf, mp_lt, mp_wc, mp_wm, i2, i4, i5, Mo_isIn_s, Mo_likeFor_s hv h hs (show 1 ≤ d + 1 by omega) (show kno v (who v i) < 64 by omega) hw, cmp0]
  unfold lieV
  by_cases q : isq v i = 0
  · rw [if_pos q, decide_eq_true q, Bool.true_and]
    by_cases l0 : l = 0
    · rw [if_neg (fun z => z l0), if_pos l0]
      by_cases z : tb (soV v i) w = true
      · rw [if_pos (by rw [z]; decide), z]; rfl
      · rw [Bool.not_eq_true] at z
        rw [if_neg (by rw [z]; decide), z]; rfl
    · rw [if_pos l0, if_neg l0]
      by_cases z : soV v i &&& mk (likeV v (kno v (who v i)) w) = 0
      · rw [if_neg (fun y => y z), decide_eq_true z]; rfl
      · rw [if_pos z, decide_eq_false z]; rfl
  · rw [if_neg q, decide_eq_false q, Bool.false_and]; rfl
theorem Mo_move_128_s {v : eV} (hv : Va v) {m : eM} (h : Mp v m) (d : Nat) {c p : Nat} (hc : c < 2) (hp : p < nP v) (h2 : gI m 237 30 = nI p) (h4 : gI m 240 30 = 0) (x2 : Int32) (k : Nat) (x4 : Int32) (S : Int64) : Mo_move_128 (d + 3) 208 (nI c) x2 (nI k) x4 239 30 S m = if tb (lieG v S (lawV v c) p) (tru v) = true then yI (nI k) (sL m 239 30 S) else Mo_move_30 (d + 3) 208 (nI c) x2 (nI (k + 1)) (.int x4) (sL m 239 30 S) := by
  have hl : lawV v c < 2 := Nat.lt_succ_of_le (hv.la hc)
  have htr := hv.tr
  have hW := W_64 hv
  have h' : Mp v (sL m 239 30 S) := h.sl rfl S
  have hs' := h'.sk
  have hm := v30_mp h' p 0 S
  have hg : gL (sL m 239 30 S) 239 30 = S := gL_w _ _ _ _
  have el : lieV (v30 v p 0 S) 30 (lawV v c) (tru v) = tb (lieG v S (lawV v c) p) (tru v) := by
    rw [← v30_lieM v p 0 S (lawV v c)]
    exact (lieM_t (v := v30 v p 0 S) htr (by omega)).symm
  have eL : Mo_isLie (d + 2) 208 (30 : Int32) (nI (lawV v c)) (nI (tru v)) (sL m 239 30 S) = yI (bb (lieV (v30 v p 0 S) 30 (lawV v c) (tru v))) (sL m 239 30 S) := Mo_isLie_w (v30_va hv p 0 S) hm hs' (show 2 ≤ d + 2 by omega) (i := 30) (by decide) h2 h4 hg hp (Nat.zero_le 1) hl (by omega)
  rw [Mo_move_128_e _ _ _ _ _ _ _ _ _ _ kd_208, show (30 : Int32) = nI 30 from rfl, gw_239 (by decide), ← show (30 : Int32) = nI 30 from rfl, mJ_u, show (30 : Int32).toNatClampNeg = 30 from rfl, rf_208_16 hs', bR_s, ga_216 (by omega), n_cl (by omega), mp_law h' hc, mp_t h', eL, br0, nI_1, el]
theorem Mo_move_30_s {v : eV} (hv : Va v) (d : Nat) {c : Nat} (hc : c < 2) (x2 : Int32) : ∀ j k w4 m, Mp v m → k + j = 12 * nP v → ∃ m', Fr sQ m m' ∧ Mo_move_30 (d + 3) 208 (nI c) x2 (nI k) w4 m = yI (mvF v (lawV v c) x2 j k) m'
  | 0, k, w4, m, h, e => by
    have hs := h.sk
    have hp := hv.p
    refine ⟨m, Fr.rfl', ?_⟩
    rw [Mo_move_30_e _ _ _ _ _ _ _ kd_208]
    rw [rf_208_10 hs, bR_s, show ∀ {o : oX}, ga m 210 20 2 o = o from ga_210 (n := 2) (by decide), show (2 : Int32).toNatClampNeg = 2 from rfl, mp_p h]
    rw [show (12 : Int32) * nI (nP v) = nI (12 * nP v) from nI_mul 12 _, if_pos (by rw [n_le (by omega) (by omega)]; omega)]
    rfl
  | j + 1, k, w4, m, h, e => by
    have hs := h.sk
    have hp := hv.p
    have hF := hv.f
    have hk12 : k / 12 < nP v := by omega
    have e1 : nI k / 12 = nI (k / 12) := nI_div (b := 12) (by omega) (by decide)
    have e2 : (nI k - nI k / 12 * 12) / 2 = nI (k % 12 / 2) := by
      rw [e1, l_12, nI_mul, pk_sub (by omega), show k - k / 12 * 12 = k % 12 by omega]
      exact nI_div (b := 2) (by omega) (by decide)
    have e3 : nI k - nI k / 2 * 2 = nI (k % 2) := by
      have : nI k / 2 = nI (k / 2) := nI_div (b := 2) (by omega) (by decide)
      rw [this, l_2, nI_mul, pk_sub (by omega), show k - k / 2 * 2 = k % 2 by omega]
    obtain ⟨m2, f2, ih⟩ := Mo_move_30_s hv d hc x2 j (k + 1) (.int (nI (k % 12 / 2))) m h (by omega)
    rw [Mo_move_30_e _ _ _ _ _ _ _ kd_208]
    rw [rf_208_10 hs, bR_s, show ∀ {o : oX}, ga m 210 20 2 o = o from ga_210 (n := 2) (by decide), show (2 : Int32).toNatClampNeg = 2 from rfl, mp_p h]
    rw [show (12 : Int32) * nI (nP v) = nI (12 * nP v) from nI_mul 12 _, if_neg (by rw [n_le (by omega) (by omega)]; omega), e2, e1, e3, lI_u, mvF_s, nI_1]
    unfold mvK
    by_cases z1 : nI (k / 12) = x2
    · rw [if_pos z1, decide_eq_true z1]
      exact ⟨m2, f2, ih⟩
    · rw [if_neg z1, decide_eq_false z1]
      simp (disch := first | assumption | omega) only [bR_s, rf_208_10, gz_210, n_cl0, mp_f, n_lt]
      by_cases z2 : k % 12 / 2 < nF v
      · rw [if_pos z2, decide_eq_true z2]
        have hm1 : Mp v (sI (sI m 237 30 (nI (k / 12))) 240 30 0) := (h.si rfl _).si rfl _
        have f1 : Fr sQ m (sI (sI m 237 30 (nI (k / 12))) 240 30 0) := (Fr.rfl'.i rfl).i rfl
        have hs1 := hm1.sk
        have g2 : gI (sI (sI m 237 30 (nI (k / 12))) 240 30 0) 237 30 = nI (k / 12) := by
          rw [gI_sI, if_neg (by decide), gI_w]
        have g4 : gI (sI (sI m 237 30 (nI (k / 12))) 240 30 0) 240 30 = 0 := gI_w _ _ _ _
        have key : ∀ S, S = mvS v (k % 12) → ∃ m', Fr sQ m m' ∧ Mo_move_128 (d + 3) 208 (nI c) x2 (nI k) (nI (k % 12 / 2)) 239 30 S (sI (sI m 237 30 (nI (k / 12))) 240 30 0) = yI (if (!false && (true && mvB v (lawV v c) (k / 12) (k % 12))) = true then nI k else mvF v (lawV v c) x2 j (k + 1)) m' := fun S hS => by
          have hm2 : Mp v (sL (sI (sI m 237 30 (nI (k / 12))) 240 30 0) 239 30 S) := hm1.sl rfl S
          have f2' : Fr sQ m (sL (sI (sI m 237 30 (nI (k / 12))) 240 30 0) 239 30 S) := f1.l rfl
          rw [Mo_move_128_s hv hm1 d hc hk12 g2 g4, hS]
          show ∃ m', Fr sQ m m' ∧ (if mvB v (lawV v c) (k / 12) (k % 12) = true then _ else _) = yI (if mvB v (lawV v c) (k / 12) (k % 12) = true then nI k else mvF v (lawV v c) x2 j (k + 1)) m'
          rw [← hS]
          by_cases z3 : mvB v (lawV v c) (k / 12) (k % 12) = true
          · rw [if_pos z3, if_pos z3]
            exact ⟨_, f2', rfl⟩
          · rw [if_neg z3, if_neg z3]
            obtain ⟨m3, f3, e3⟩ := Mo_move_30_s hv d hc x2 j (k + 1) (.int (nI (k % 12 / 2))) _ hm2 (by omega)
            exact ⟨m3, f2'.tr f3, e3⟩
        rw [rf_208_45 hs, bR_s, show (30 : Int32) = nI 30 from rfl, gw_237 (by decide), mI_u, n_cl (by decide), rf_208_48 (hs.i _ _ _), bR_s, gw_240 (by decide), mI_u, show (0 : Int32) &&& 1 = 0 from rfl, ← show (30 : Int32) = nI 30 from rfl, rf_208_47 hs1, bR_s]
        by_cases z3 : k % 2 = 0
        · rw [if_neg (fun q => q (by rw [z3]; rfl)), Mo_factSet_s hv hm1 hs1 _ (by omega), bL_y]
          refine key _ ?_
          unfold facM mvS
          refine mk_e fun w hw => ?_
          rw [t_mk _ hw, show k % 12 % 2 = k % 2 by omega, decide_eq_true z3]
          cases w.testBit (k % 12 / 2) <;> cases decide (w < 2 ^ nF v) <;> rfl
        · rw [if_pos (by rw [n_eq0 (by omega)]; exact z3), Mo_allWorlds_s hv hm1, bL_y, Mo_factSet_s hv hm1 hs1 _ (by omega), bL_y]
          refine key _ ?_
          unfold facM mvS allM
          refine t_ext fun w hw => ?_
          rw [t_and, t_not hw, t_mk _ hw, t_mk _ hw, t_mk _ hw, show k % 12 % 2 = k % 2 by omega, decide_eq_false z3]
          cases w.testBit (k % 12 / 2) <;> cases decide (w < 2 ^ nF v) <;> rfl
      · rw [if_neg z2, decide_eq_false z2]
        exact ⟨m2, f2, ih⟩
theorem Mo_move_s {v : eV} (hv : Va v) {D : Nat} (hD : 4 ≤ D) {m : eM} (h : Mp v m) (c x : Int32) : ∃ m', Fr sQ m m' ∧ Mo_move D 208 c x m = yI (sp_move v c x) m' := by
  obtain ⟨d, rfl⟩ : ∃ d, D = d + 4 := ⟨D - 4, by omega⟩
  have h0 := th0 h
  have e0 : Mo_move (d + 4) 208 c x m = if thr v c = true then (if perQ v x = true then Mo_move_30 (d + 4) 208 c x 0 eU (sI m 208 0 0) else yI (-1) (sI m 208 0 0)) else yI (-1) (sI m 208 0 0) := by
    rw [Mo_move_e _ _ _ _ _ kd_208, mI_u, Mo_isThere_s hv h0 h0.sk, br0, Mo_isPerson_s h0 h0.sk, br1]
    unfold perQ
    by_cases z : x = -1
    · rw [if_pos z, decide_eq_true z]; rfl
    · rw [if_neg z, decide_eq_false z]; rfl
  rw [e0]
  unfold sp_move
  by_cases z1 : thr v c = true
  · rw [if_pos z1, if_pos z1]
    by_cases z2 : perQ v x = true
    · rw [if_pos z2, if_pos z2]
      obtain ⟨k, hk, rfl, -⟩ := thr_of z1
      obtain ⟨m1, f1, e1⟩ := Mo_move_30_s hv (d + 1) hk x (12 * nP v) 0 eU _ h0 (by omega)
      refine ⟨m1, f0.tr f1, ?_⟩
      rw [n_cl (by omega)]
      exact e1
    · rw [if_neg z2, if_neg z2]
      exact ⟨_, f0, rfl⟩
  · rw [if_neg z1, if_neg z1]
    exact ⟨_, f0, rfl⟩
/-! the class -/
theorem par_12 : ∀ k, k < 12 → nI k >>> ((1 : Int32) &&& 31) = nI (k / 2) ∧ (nI k &&& 1 = 0 ↔ k % 2 = 0) := by decide
theorem LC_firstLie_2_s {v : eV} (hv : Va v) {p : Nat} {m : eM} (h : Cn v p m) (d : Nat) {q L : Nat} (hq : q < nP v) (hL : L < 2) : ∀ j k w, k + j = 2 * nF v → LC_firstLie_2 (d + 3) 3 (nI q) (nI L) (nI k) w m = yI (flF v L q j k) m
  | 0, k, w, e => by
    have hs := h.sk
    have hF := hv.f
    rw [LC_firstLie_2_e _ _ _ _ _ _ _ kd_3, rf_3_2 hs, bR_s, gd9, h.r0, bR_s, h.gp, Pa_facts_s h.p, bI_y, l_2, nI_mul, if_pos (by rw [n_le (by omega) (by omega)]; omega)]
    rfl
  | j + 1, k, w, e => by
    have hs := h.sk
    have hF := hv.f
    have htr := hv.tr
    have hW := W_64 hv
    have hk12 : k < 12 := by omega
    obtain ⟨s1, s2⟩ := par_12 k hk12
    have key : ∀ b : Bool, b = decide (k % 2 = 0) → LC_firstLie_39 (d + 3) 3 (nI q) (nI L) (nI k) w p (nI (k / 2)) (bb b) m = yI (flF v L q (j + 1) k) m := fun b hb => by
      rw [LC_firstLie_39_e _ _ _ _ _ _ _ _ _ _ kd_3 h.p.kd, Pa_factIs_s hv h.p h.ss (by omega) (by omega) b, bL_y, rf_3_2 hs, bR_s, gd9, h.r0, bR_s, h.gp, Pa_lies_s hv h.p h.ss (by omega) _ hq hL, bL_y, rf_3_2 hs, bR_s, gd9, h.tr, LC_holds_s _ _ (by omega), br0, flF_s, nI_1, LC_firstLie_2_s hv h d hq hL j (k + 1) _ (by omega), hb]
      show (if mvB v L q k = true then yI (nI k) m else _) = _
      exact yI_ite _ _ _
    rw [LC_firstLie_2_e _ _ _ _ _ _ _ kd_3, rf_3_2 hs, bR_s, gd9, h.r0, bR_s, h.gp, Pa_facts_s h.p, bI_y, l_2, nI_mul, if_neg (by rw [n_le (by omega) (by omega)]; omega), rf_3_2 hs, bR_s, gd9, h.r0, bR_s, s1]
    by_cases z : k % 2 = 0
    · rw [if_neg (fun y => y (s2.mpr z))]
      exact key true (decide_eq_true z).symm
    · rw [if_pos (fun y => z (s2.mp y))]
      exact key false (decide_eq_false z).symm
theorem LC_move_34_s {v : eV} (hv : Va v) {p : Nat} {m : eM} (h : Cn v p m) (d : Nat) {c : Nat} (hc : c < 2) (x2 : Int32) : ∀ j q w, q + j = nP v → LC_move_34 (d + 5) 3 (nI c) x2 p (nI q) w m = yI (mvF v (lawV v c) x2 (12 * j) (12 * q)) m
  | 0, q, w, e => by
    have hP := hv.p
    rw [LC_move_34_e _ _ _ _ _ _ _ _ kd_3 h.p.kd, Pa_people_s h.p, bI_y, if_pos (by rw [n_le (by omega) (by omega)]; omega)]
    rfl
  | j + 1, q, w, e => by
    have hP := hv.p
    have hF := hv.f
    have hl : lawV v c < 2 := Nat.lt_succ_of_le (hv.la hc)
    have ef : LC_firstLie (d + 4) 3 (nI q) (nI (lawV v c)) m = yI (flF v (lawV v c) q (2 * nF v) 0) m := by
      rw [LC_firstLie_e _ _ _ _ _ kd_3]
      exact LC_firstLie_2_s hv h (d + 1) (by omega) hl (2 * nF v) 0 eU (by omega)
    rw [LC_move_34_e _ _ _ _ _ _ _ _ kd_3 h.p.kd, Pa_people_s h.p, bI_y, if_neg (by rw [n_le (by omega) (by omega)]; omega), Pa_law_s h.p (by omega) hc, bI_y, ef, bI_y, nI_1, LC_move_34_s hv h d hc x2 j (q + 1) _ (by omega), LC_move_34_s hv h d hc x2 j (q + 1) _ (by omega), show 12 * (j + 1) = 12 + 12 * j by omega]
    by_cases z : nI q = x2
    · rw [if_neg (fun y => y z)]
      have := mvF_skip (v := v) (L := lawV v c) z (12 * j) 12 0 (by omega)
      rw [Nat.add_zero] at this
      rw [this]
    · rw [if_pos z]
      have := mvF_one hF (L := lawV v c) z (12 * j) 12 0 (by omega)
      rw [Nat.add_zero, Nat.sub_zero] at this
      rw [this, l_12, nI_mul, Nat.mul_comm q 12]
      exact yI_ite _ _ _
theorem LC_move_s {v : eV} (hv : Va v) {p : Nat} {m : eM} (h : Cn v p m) {D : Nat} (hD : 5 ≤ D) (c x : Int32) : ∃ m', Fr sK m m' ∧ LC_move D 3 c x m = yI (sp_move v c x) m' := by
  obtain ⟨d, rfl⟩ : ∃ d, D = d + 5 := ⟨D - 5, by omega⟩
  have hs := h.sk
  refine ⟨m, Fr.rfl', ?_⟩
  have e0 : LC_move (d + 5) 3 c x m = if thr v c = true then (if perQ v x = true then LC_move_34 (d + 5) 3 c x p 0 eU m else yI (-1) m) else yI (-1) m := by
    rw [LC_move_e _ _ _ _ _ kd_3, rf_3_2 hs, bR_s, gd9, h.r0, bR_s, h.gp, Pa_isThere_s hv h.p (by omega), br0, Pa_isPerson_s h.p, br1]
    unfold perQ
    by_cases z : x = -1
    · rw [if_pos z, decide_eq_true z]; rfl
    · rw [if_neg z, decide_eq_false z]; rfl
  rw [e0]
  unfold sp_move
  by_cases z1 : thr v c = true
  · rw [if_pos z1, if_pos z1]
    by_cases z2 : perQ v x = true
    · rw [if_pos z2, if_pos z2]
      obtain ⟨k, hk, rfl, -⟩ := thr_of z1
      rw [n_cl (by omega)]
      exact LC_move_34_s hv h d hk x (nP v) 0 eU (by omega)
    · rw [if_neg z2, if_neg z2]
  · rw [if_neg z1, if_neg z1]
