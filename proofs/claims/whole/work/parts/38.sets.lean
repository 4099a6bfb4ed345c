/-! ===== PROOF, CLASH: sets of looks ===== -/
def wiN (v : eV) (set : Nat) : Nat → Int64
  | 0 => com v
  | l + 1 => if set.testBit l = true then wiN v set l &&& fitM v l else wiN v set l
def wi (v : eV) (set : Nat) : Int64 := wiN v set (nL v)
theorem wiN_t (v : eV) (set : Nat) {w : Nat} : ∀ n, tb (wiN v set n) w = true ↔ tb (com v) w = true ∧ ∀ l, l < n → set.testBit l = true → tb (fitM v l) w = true
  | 0 => ⟨fun h => ⟨h, fun l hl => absurd hl (Nat.not_lt_zero l)⟩, fun h => h.1⟩
  | n + 1 => by
    have ih := wiN_t v set (w := w) n
    by_cases z : set.testBit n = true
    · have e : wiN v set (n + 1) = wiN v set n &&& fitM v n := if_pos z
      rw [e, t_and, Bool.and_eq_true, ih]
      constructor
      · rintro ⟨⟨a, b⟩, c⟩
        refine ⟨a, fun l hl hs => ?_⟩
        by_cases y : l = n
        · subst y; exact c
        · exact b l (by omega) hs
      · rintro ⟨a, b⟩
        exact ⟨⟨a, fun l hl => b l (by omega)⟩, b n (by omega) z⟩
    · have e : wiN v set (n + 1) = wiN v set n := if_neg z
      rw [e, ih]
      constructor
      · rintro ⟨a, b⟩
        refine ⟨a, fun l hl hs => ?_⟩
        by_cases y : l = n
        · subst y; exact absurd hs z
        · exact b l (by omega) hs
      · rintro ⟨a, b⟩
        exact ⟨a, fun l hl => b l (by omega)⟩
theorem canN_t (v : eV) {w : Nat} : ∀ n, tb (canN v n) w = true ↔ tb (com v) w = true ∧ ∀ l, l < n → tb (fitM v l) w = true
  | 0 => ⟨fun h => ⟨h, fun l hl => absurd hl (Nat.not_lt_zero l)⟩, fun h => h.1⟩
  | n + 1 => by
    have ih := canN_t v (w := w) n
    have e : canN v (n + 1) = canN v n &&& fitM v n := rfl
    rw [e, t_and, Bool.and_eq_true, ih]
    constructor
    · rintro ⟨⟨a, b⟩, c⟩
      refine ⟨a, fun l hl => ?_⟩
      by_cases y : l = n
      · subst y; exact c
      · exact b l (by omega)
    · rintro ⟨a, b⟩
      exact ⟨⟨a, fun l hl => b l (by omega)⟩, b n (by omega)⟩
theorem can_wi {v : eV} (set : Nat) {w : Nat} (h : tb (canV v) w = true) : tb (wi v set) w = true :=
  (wiN_t v set _).mpr ⟨((canN_t v _).mp h).1, fun l hl _ => ((canN_t v _).mp h).2 l hl⟩
theorem wi_all (v : eV) : wi v (2 ^ nL v - 1) = canV v := t_ext fun w _ => by
  rw [Bool.eq_iff_iff]
  constructor
  · intro h
    have := (wiN_t v _ _).mp h
    exact (canN_t v _).mpr ⟨this.1, fun l hl => this.2 l hl (by rw [Nat.testBit_two_pow_sub_one]; exact decide_eq_true hl)⟩
  · exact can_wi _
theorem wi_lt {v : eV} (hv : Va v) {set w : Nat} (h : tb (wi v set) w = true) : w < 2 ^ nF v := by
  rcases Nat.lt_or_ge w (2 ^ nF v) with z | z
  · exact z
  · have := ((wiN_t v set _).mp h).1
    rw [hv.cw z] at this; cases this
theorem wi_0 (v : eV) : wi v 0 = com v := t_ext fun w _ => by
  rw [Bool.eq_iff_iff]
  constructor
  · intro h; exact ((wiN_t v 0 _).mp h).1
  · intro h; exact (wiN_t v 0 _).mpr ⟨h, fun l _ hs => by rw [Nat.zero_testBit] at hs; cases hs⟩
theorem wi_low {v : eV} {set f : Nat} (hf : f < nL v) (hs : set.testBit f = true) : wi v set = wi v (set ^^^ 2 ^ f) &&& fitM v f := t_ext fun w _ => by
  have hx : ∀ l, (set ^^^ 2 ^ f).testBit l = (set.testBit l && !decide (l = f)) := fun l => by
    rw [Nat.testBit_xor]
    by_cases y : l = f
    · subst y; rw [hs, Nat.testBit_two_pow_self, decide_eq_true rfl]; rfl
    · rw [Nat.testBit_two_pow_of_ne (Ne.symm y), decide_eq_false y]; simp
  rw [Bool.eq_iff_iff, t_and, Bool.and_eq_true]
  constructor
  · intro h
    have h1 := (wiN_t v set _).mp h
    refine ⟨(wiN_t v _ _).mpr ⟨h1.1, fun l hl z => h1.2 l hl ?_⟩, h1.2 f hf hs⟩
    rw [hx, Bool.and_eq_true] at z
    exact z.1
  · rintro ⟨h, h2⟩
    have h1 := (wiN_t v _ _).mp h
    refine (wiN_t v _ _).mpr ⟨h1.1, fun l hl z => ?_⟩
    by_cases y : l = f
    · subst y; exact h2
    · exact h1.2 l hl (by rw [hx, z, decide_eq_false y]; rfl)
/-- sets with which none of these worlds is left -/
def gdS (v : eV) (y : Int64) (set : Nat) : Bool := decide (wi v set &&& y = 0)
def sp_proof (v : eV) (s w : Int32) : Int32 := if inN s (nS v) = true then (if inN w 2 = true then (if sur2 (canV v) (soV v s.toNatClampNeg) = true then sos (few (gdS v (if surN (canV v) (soV v s.toNatClampNeg) = 1 then soV v s.toNatClampNeg ^^^ (-1) else soV v s.toNatClampNeg)) (2 ^ nL v)) w else -1) else -1) else -1
def sp_clash (v : eV) (w : Int32) : Int32 := if inN w 2 = true then (if canV v = 0 then sos (few (gdS v (allM v)) (2 ^ nL v)) w else -1) else -1
theorem L_le {v : eV} (hv : Va v) : 2 ^ nL v ≤ 4096 := Nat.pow_le_pow_right (n := 2) (j := 12) (by decide) hv.l
/-! the reference -/
theorem Mo_withLooks_10_s {v : eV} (hv : Va v) {m : eM} (h : Mp v m) (hs : Sk m) (hft : ∀ k, k < nL v → gL m 247 k = fitM v k) (d : Nat) {set : Nat} (hset : set < 4096) : ∀ j l, l + j = nL v → Mo_withLooks_10 d 208 (nI set) (wiN v set l) (nI l) m = yL (wi v set) m
  | 0, l, e => by
    have hnF := hv.f; have hnPl := hv.pl; have hnP := hv.p; have hnC := hv.cm; have hnS := hv.s; have hnO := hv.o; have hnL := hv.l; have hnW := hv.wt; have hW := W_le hv; have hW0 := @W_pos v; have htr := hv.tr
    rw [Mo_withLooks_10_e _ _ _ _ _ _ kd_208]
    simp (disch := first | assumption | omega) only [bR_s, bI_y, bL_y, bV_y, mI_u, mJ_u, mQ_u, lI_u, lL_u, toI, gI_sI, gI_sL, gL_sI, gL_sL, gR_sI, gR_sL, bb_0, bb_1, n_lt0, n_ge0, n_eq, n_le, n_lt, n_eq0, n_eq1, n_le0, n_cl, n_cl0, n_cl1, nI_1, nI_add, false_and, and_false, true_and, and_true, if_true, if_false, not_true, not_false_iff, Classical.not_not, eq_self, Bool.false_eq_true, not_lt_zero, Nat.reduceEqDiff, Nat.reduceAdd, Nat.reduceSub, Nat.reduceMul, Nat.reduceLeDiff, Nat.reduceLT, l_2, l_3, l_4, l_5, l_6, l_7, l_8, l_9, l_10, l_12, l_15, l_16, l_18, l_20, l_21, l_22, l_24, l_25, l_26, l_27, l_28, l_29, l_30, l_32, l_36, l_40, l_41, l_42, l_43, l_45, l_48, l_56, l_57, l_59, l_60, l_61, l_62, l_63, l_64, l_97, l_99, l_100, l_122, l_126, l_127, l_168, l_180, l_255, l_300, l_359, l_360, l_400, l_1000, l_1200, l_1439, l_1440, l_1536, l_4096, rf_208_2, rf_208_10, rf_208_11, rf_208_12, rf_208_13, rf_208_14, rf_208_15, rf_208_16, rf_208_17, rf_208_18, rf_208_19, rf_208_20, rf_208_21, rf_208_22, rf_208_24, rf_208_25, rf_208_26, rf_208_27, rf_208_28, rf_208_29, rf_208_30, rf_208_31, rf_208_32, rf_208_33, rf_208_34, rf_208_35, rf_208_36, rf_208_39, rf_208_45, rf_208_46, rf_208_47, rf_208_48, rf_208_49, rf_208_51, rf_208_52, rf_208_53, rf_208_54, rf_208_55, rf_208_56, rf_208_57, rf_208_58, rf_208_59, rf_208_60, rf_208_62, rf_208_63, rf_208_64, rf_208_65, rf_208_66, rf_208_67, gl_209, ga_209, gw_209, al_209, gz_209, gy_209, gx_209, gl_210, ga_210, gw_210, al_210, gz_210, gy_210, gx_210, gl_211, ga_211, gw_211, al_211, gz_211, gy_211, gx_211, gl_212, ga_212, gw_212, al_212, gz_212, gy_212, gx_212, gl_213, ga_213, gw_213, al_213, gz_213, gy_213, gx_213, gl_214, ga_214, gw_214, al_214, gz_214, gy_214, gx_214, gl_215, ga_215, gw_215, al_215, gz_215, gy_215, gx_215, gl_216, ga_216, gw_216, al_216, gz_216, gy_216, gx_216, gl_217, ga_217, gw_217, al_217, gz_217, gy_217, gx_217, gl_218, ga_218, gw_218, al_218, gz_218, gy_218, gx_218, gl_219, ga_219, gw_219, al_219, gz_219, gy_219, gx_219, gl_220, ga_220, gw_220, al_220, gz_220, gy_220, gx_220, gl_221, ga_221, gw_221, al_221, gz_221, gy_221, gx_221, gl_222, ga_222, gw_222, al_222, gz_222, gy_222, gx_222, gl_223, ga_223, gw_223, al_223, gz_223, gy_223, gx_223, gl_224, ga_224, gw_224, al_224, gz_224, gy_224, gx_224, gl_225, ga_225, gw_225, al_225, gz_225, gy_225, gx_225, gl_226, ga_226, gw_226, al_226, gz_226, gy_226, gx_226, gl_227, ga_227, gw_227, al_227, gz_227, gy_227, gx_227, gl_228, ga_228, gw_228, al_228, gz_228, gy_228, gx_228, gl_229, ga_229, gw_229, al_229, gz_229, gy_229, gx_229, gl_230, ga_230, gw_230, al_230, gz_230, gy_230, gx_230, gl_231, ga_231, gw_231, al_231, gz_231, gy_231, gx_231, gl_232, ga_232, gw_232, al_232, gz_232, gy_232, gx_232, gl_233, ga_233, gw_233, al_233, gz_233, gy_233, gx_233, gl_234, ga_234, gw_234, al_234, gz_234, gy_234, gx_234, gl_235, ga_235, gw_235, al_235, gz_235, gy_235, gx_235, gl_236, ga_236, gw_236, al_236, gz_236, gy_236, gx_236, gl_237, ga_237, gw_237, al_237, gz_237, gy_237, gx_237, gl_238, ga_238, gw_238, al_238, gz_238, gy_238, gx_238, gl_239, ga_239, gw_239, al_239, gz_239, gy_239, gx_239, gl_240, ga_240, gw_240, al_240, gz_240, gy_240, gx_240, gl_241, ga_241, gw_241, al_241, gz_241, gy_241, gx_241, gl_242, ga_242, gw_242, al_242, gz_242, gy_242, gx_242, gl_243, ga_243, gw_243, al_243, gz_243, gy_243, gx_243, gl_244, ga_244, gw_244, al_244, gz_244, gy_244, gx_244, gl_245, ga_245, gw_245, al_245, gz_245, gy_245, gx_245, gl_246, ga_246, gw_246, al_246, gz_246, gy_246, gx_246, gl_247, ga_247, gw_247, al_247, gz_247, gy_247, gx_247, gl_248, ga_248, gw_248, al_248, gz_248, gy_248, gx_248, gl_249, ga_249, gw_249, al_249, gz_249, gy_249, gx_249, gl_250, ga_250, gw_250, al_250, gz_250, gy_250, gx_250, gl_251, ga_251, gw_251, al_251, gz_251, gy_251, gx_251, gl_252, ga_252, gw_252, al_252, gz_252, gy_252, gx_252, gl_253, ga_253, gw_253, al_253, gz_253, gy_253, gx_253, gl_254, ga_254, gw_254, al_254, gz_254, gy_254, gx_254, gl_255, ga_255, gw_255, al_255, gz_255, gy_255, gx_255, gl_256, ga_256, gw_256, al_256, gz_256, gy_256, gx_256, gl_257, ga_257, gw_257, al_257, gz_257, gy_257, gx_257, mp_f, mp_pl, mp_p, mp_cm, mp_s, mp_o, mp_l, mp_w, mp_t, mp_cha, mp_bea, mp_hom, mp_kno, mp_law, mp_lat, mp_isc, mp_who, mp_whn, mp_isq, mp_so, mp_com, mp_lc, mp_lm, mp_lf, mp_lt, mp_wc, mp_wm]
    rw [if_pos (by omega)]
    unfold wi
    rw [show nL v = l by omega]
  | j + 1, l, e => by
    have hnF := hv.f; have hnPl := hv.pl; have hnP := hv.p; have hnC := hv.cm; have hnS := hv.s; have hnO := hv.o; have hnL := hv.l; have hnW := hv.wt; have hW := W_le hv; have hW0 := @W_pos v; have htr := hv.tr
    have ih := Mo_withLooks_10_s hv h hs hft d hset j (l + 1) (by omega)
    have hf1 := hft l (by omega)
    rw [Mo_withLooks_10_e _ _ _ _ _ _ kd_208]
    simp (disch := first | assumption | omega) only [bR_s, bI_y, bL_y, bV_y, mI_u, mJ_u, mQ_u, lI_u, lL_u, toI, gI_sI, gI_sL, gL_sI, gL_sL, gR_sI, gR_sL, bb_0, bb_1, n_lt0, n_ge0, n_eq, n_le, n_lt, n_eq0, n_eq1, n_le0, n_cl, n_cl0, n_cl1, nI_1, nI_add, false_and, and_false, true_and, and_true, if_true, if_false, not_true, not_false_iff, Classical.not_not, eq_self, Bool.false_eq_true, not_lt_zero, Nat.reduceEqDiff, Nat.reduceAdd, Nat.reduceSub, Nat.reduceMul, Nat.reduceLeDiff, Nat.reduceLT, l_2, l_3, l_4, l_5, l_6, l_7, l_8, l_9, l_10, l_12, l_15, l_16, l_18, l_20, l_21, l_22, l_24, l_25, l_26, l_27, l_28, l_29, l_30, l_32, l_36, l_40, l_41, l_42, l_43, l_45, l_48, l_56, l_57, l_59, l_60, l_61, l_62, l_63, l_64, l_97, l_99, l_100, l_122, l_126, l_127, l_168, l_180, l_255, l_300, l_359, l_360, l_400, l_1000, l_1200, l_1439, l_1440, l_1536, l_4096, rf_208_2, rf_208_10, rf_208_11, rf_208_12, rf_208_13, rf_208_14, rf_208_15, rf_208_16, rf_208_17, rf_208_18, rf_208_19, rf_208_20, rf_208_21, rf_208_22, rf_208_24, rf_208_25, rf_208_26, rf_208_27, rf_208_28, rf_208_29, rf_208_30, rf_208_31, rf_208_32, rf_208_33, rf_208_34, rf_208_35, rf_208_36, rf_208_39, rf_208_45, rf_208_46, rf_208_47, rf_208_48, rf_208_49, rf_208_51, rf_208_52, rf_208_53, rf_208_54, rf_208_55, rf_208_56, rf_208_57, rf_208_58, rf_208_59, rf_208_60, rf_208_62, rf_208_63, rf_208_64, rf_208_65, rf_208_66, rf_208_67, gl_209, ga_209, gw_209, al_209, gz_209, gy_209, gx_209, gl_210, ga_210, gw_210, al_210, gz_210, gy_210, gx_210, gl_211, ga_211, gw_211, al_211, gz_211, gy_211, gx_211, gl_212, ga_212, gw_212, al_212, gz_212, gy_212, gx_212, gl_213, ga_213, gw_213, al_213, gz_213, gy_213, gx_213, gl_214, ga_214, gw_214, al_214, gz_214, gy_214, gx_214, gl_215, ga_215, gw_215, al_215, gz_215, gy_215, gx_215, gl_216, ga_216, gw_216, al_216, gz_216, gy_216, gx_216, gl_217, ga_217, gw_217, al_217, gz_217, gy_217, gx_217, gl_218, ga_218, gw_218, al_218, gz_218, gy_218, gx_218, gl_219, ga_219, gw_219, al_219, gz_219, gy_219, gx_219, gl_220, ga_220, gw_220, al_220, gz_220, gy_220, gx_220, gl_221, ga_221, gw_221, al_221, gz_221, gy_221, gx_221, gl_222, ga_222, gw_222, al_222, gz_222, gy_222, gx_222, gl_223, ga_223, gw_223, al_223, gz_223, gy_223, gx_223, gl_224, ga_224, gw_224, al_224, gz_224, gy_224, gx_224, gl_225, ga_225, gw_225, al_225, gz_225, gy_225, gx_225, gl_226, ga_226, gw_226, al_226, gz_226, gy_226, gx_226, gl_227, ga_227, gw_227, al_227, gz_227, gy_227, gx_227, gl_228, ga_228, gw_228, al_228, gz_228, gy_228, gx_228, gl_229, ga_229, gw_229, al_229, gz_229, gy_229, gx_229, gl_230, ga_230, gw_230, al_230, gz_230, gy_230, gx_230, gl_231, ga_231, gw_231, al_231, gz_231, gy_231, gx_231, gl_232, ga_232, gw_232, al_232, gz_232, gy_232, gx_232, gl_233, ga_233, gw_233, al_233, gz_233, gy_233, gx_233, gl_234, ga_234, gw_234, al_234, gz_234, gy_234, gx_234, gl_235, ga_235, gw_235, al_235, gz_235, gy_235, gx_235, gl_236, ga_236, gw_236, al_236, gz_236, gy_236, gx_236, gl_237, ga_237, gw_237, al_237, gz_237, gy_237, gx_237, gl_238, ga_238, gw_238, al_238, gz_238, gy_238, gx_238, gl_239, ga_239, gw_239, al_239, gz_239, gy_239, gx_239, gl_240, ga_240, gw_240, al_240, gz_240, gy_240, gx_240, gl_241, ga_241, gw_241, al_241, gz_241, gy_241, gx_241, gl_242, ga_242, gw_242, al_242, gz_242, gy_242, gx_242, gl_243, ga_243, gw_243, al_243, gz_243, gy_243, gx_243, gl_244, ga_244, gw_244, al_244, gz_244, gy_244, gx_244, gl_245, ga_245, gw_245, al_245, gz_245, gy_245, gx_245, gl_246, ga_246, gw_246, al_246, gz_246, gy_246, gx_246, gl_247, ga_247, gw_247, al_247, gz_247, gy_247, gx_247, gl_248, ga_248, gw_248, al_248, gz_248, gy_248, gx_248, gl_249, ga_249, gw_249, al_249, gz_249, gy_249, gx_249, gl_250, ga_250, gw_250, al_250, gz_250, gy_250, gx_250, gl_251, ga_251, gw_251, al_251, gz_251, gy_251, gx_251, gl_252, ga_252, gw_252, al_252, gz_252, gy_252, gx_252, gl_253, ga_253, gw_253, al_253, gz_253, gy_253, gx_253, gl_254, ga_254, gw_254, al_254, gz_254, gy_254, gx_254, gl_255, ga_255, gw_255, al_255, gz_255, gy_255, gx_255, gl_256, ga_256, gw_256, al_256, gz_256, gy_256, gx_256, gl_257, ga_257, gw_257, al_257, gz_257, gy_257, gx_257, mp_f, mp_pl, mp_p, mp_cm, mp_s, mp_o, mp_l, mp_w, mp_t, mp_cha, mp_bea, mp_hom, mp_kno, mp_law, mp_lat, mp_isc, mp_who, mp_whn, mp_isq, mp_so, mp_com, mp_lc, mp_lm, mp_lf, mp_lt, mp_wc, mp_wm, bitI, hf1]
    rw [if_neg (by omega), ← ih]
    by_cases z : set.testBit l = true
    · have e : wiN v set (l + 1) = wiN v set l &&& fitM v l := if_pos z
      rw [if_neg (fun y => y z), e]
    · have e : wiN v set (l + 1) = wiN v set l := if_neg z
      rw [if_pos z, e]
theorem Mo_withLooks_s {v : eV} (hv : Va v) {m : eM} (h : Mp v m) (hs : Sk m) (hft : ∀ k, k < nL v → gL m 247 k = fitM v k) (d : Nat) {set : Nat} (hset : set < 4096) : Mo_withLooks d 208 (nI set) m = yL (wi v set) m := by
  have := Mo_withLooks_10_s hv h hs hft d hset (nL v) 0 (by omega)
  rw [Mo_withLooks_e _ _ _ _ kd_208]
  simp (disch := first | assumption | omega) only [bR_s, bI_y, bL_y, bV_y, mI_u, mJ_u, mQ_u, lI_u, lL_u, toI, gI_sI, gI_sL, gL_sI, gL_sL, gR_sI, gR_sL, bb_0, bb_1, n_lt0, n_ge0, n_eq, n_le, n_lt, n_eq0, n_eq1, n_le0, n_cl, n_cl0, n_cl1, nI_1, nI_add, false_and, and_false, true_and, and_true, if_true, if_false, not_true, not_false_iff, Classical.not_not, eq_self, Bool.false_eq_true, not_lt_zero, Nat.reduceEqDiff, Nat.reduceAdd, Nat.reduceSub, Nat.reduceMul, Nat.reduceLeDiff, Nat.reduceLT, l_2, l_3, l_4, l_5, l_6, l_7, l_8, l_9, l_10, l_12, l_15, l_16, l_18, l_20, l_21, l_22, l_24, l_25, l_26, l_27, l_28, l_29, l_30, l_32, l_36, l_40, l_41, l_42, l_43, l_45, l_48, l_56, l_57, l_59, l_60, l_61, l_62, l_63, l_64, l_97, l_99, l_100, l_122, l_126, l_127, l_168, l_180, l_255, l_300, l_359, l_360, l_400, l_1000, l_1200, l_1439, l_1440, l_1536, l_4096, rf_208_2, rf_208_10, rf_208_11, rf_208_12, rf_208_13, rf_208_14, rf_208_15, rf_208_16, rf_208_17, rf_208_18, rf_208_19, rf_208_20, rf_208_21, rf_208_22, rf_208_24, rf_208_25, rf_208_26, rf_208_27, rf_208_28, rf_208_29, rf_208_30, rf_208_31, rf_208_32, rf_208_33, rf_208_34, rf_208_35, rf_208_36, rf_208_39, rf_208_45, rf_208_46, rf_208_47, rf_208_48, rf_208_49, rf_208_51, rf_208_52, rf_208_53, rf_208_54, rf_208_55, rf_208_56, rf_208_57, rf_208_58, rf_208_59, rf_208_60, rf_208_62, rf_208_63, rf_208_64, rf_208_65, rf_208_66, rf_208_67, gl_209, ga_209, gw_209, al_209, gz_209, gy_209, gx_209, gl_210, ga_210, gw_210, al_210, gz_210, gy_210, gx_210, gl_211, ga_211, gw_211, al_211, gz_211, gy_211, gx_211, gl_212, ga_212, gw_212, al_212, gz_212, gy_212, gx_212, gl_213, ga_213, gw_213, al_213, gz_213, gy_213, gx_213, gl_214, ga_214, gw_214, al_214, gz_214, gy_214, gx_214, gl_215, ga_215, gw_215, al_215, gz_215, gy_215, gx_215, gl_216, ga_216, gw_216, al_216, gz_216, gy_216, gx_216, gl_217, ga_217, gw_217, al_217, gz_217, gy_217, gx_217, gl_218, ga_218, gw_218, al_218, gz_218, gy_218, gx_218, gl_219, ga_219, gw_219, al_219, gz_219, gy_219, gx_219, gl_220, ga_220, gw_220, al_220, gz_220, gy_220, gx_220, gl_221, ga_221, gw_221, al_221, gz_221, gy_221, gx_221, gl_222, ga_222, gw_222, al_222, gz_222, gy_222, gx_222, gl_223, ga_223, gw_223, al_223, gz_223, gy_223, gx_223, gl_224, ga_224, gw_224, al_224, gz_224, gy_224, gx_224, gl_225, ga_225, gw_225, al_225, gz_225, gy_225, gx_225, gl_226, ga_226, gw_226, al_226, gz_226, gy_226, gx_226, gl_227, ga_227, gw_227, al_227, gz_227, gy_227, gx_227, gl_228, ga_228, gw_228, al_228, gz_228, gy_228, gx_228, gl_229, ga_229, gw_229, al_229, gz_229, gy_229, gx_229, gl_230, ga_230, gw_230, al_230, gz_230, gy_230, gx_230, gl_231, ga_231, gw_231, al_231, gz_231, gy_231, gx_231, gl_232, ga_232, gw_232, al_232, gz_232, gy_232, gx_232, gl_233, ga_233, gw_233, al_233, gz_233, gy_233, gx_233, gl_234, ga_234, gw_234, al_234, gz_234, gy_234, gx_234, gl_235, ga_235, gw_235, al_235, gz_235, gy_235, gx_235, gl_236, ga_236, gw_236, al_236, gz_236, gy_236, gx_236, gl_237, ga_237, gw_237, al_237, gz_237, gy_237, gx_237, gl_238, ga_238, gw_238, al_238, gz_238, gy_238, gx_238, gl_239, ga_239, gw_239, al_239, gz_239, gy_239, gx_239, gl_240, ga_240, gw_240, al_240, gz_240, gy_240, gx_240, gl_241, ga_241, gw_241, al_241, gz_241, gy_241, gx_241, gl_242, ga_242, gw_242, al_242, gz_242, gy_242, gx_242, gl_243, ga_243, gw_243, al_243, gz_243, gy_243, gx_243, gl_244, ga_244, gw_244, al_244, gz_244, gy_244, gx_244, gl_245, ga_245, gw_245, al_245, gz_245, gy_245, gx_245, gl_246, ga_246, gw_246, al_246, gz_246, gy_246, gx_246, gl_247, ga_247, gw_247, al_247, gz_247, gy_247, gx_247, gl_248, ga_248, gw_248, al_248, gz_248, gy_248, gx_248, gl_249, ga_249, gw_249, al_249, gz_249, gy_249, gx_249, gl_250, ga_250, gw_250, al_250, gz_250, gy_250, gx_250, gl_251, ga_251, gw_251, al_251, gz_251, gy_251, gx_251, gl_252, ga_252, gw_252, al_252, gz_252, gy_252, gx_252, gl_253, ga_253, gw_253, al_253, gz_253, gy_253, gx_253, gl_254, ga_254, gw_254, al_254, gz_254, gy_254, gx_254, gl_255, ga_255, gw_255, al_255, gz_255, gy_255, gx_255, gl_256, ga_256, gw_256, al_256, gz_256, gy_256, gx_256, gl_257, ga_257, gw_257, al_257, gz_257, gy_257, gx_257, mp_f, mp_pl, mp_p, mp_cm, mp_s, mp_o, mp_l, mp_w, mp_t, mp_cha, mp_bea, mp_hom, mp_kno, mp_law, mp_lat, mp_isc, mp_who, mp_whn, mp_isq, mp_so, mp_com, mp_lc, mp_lm, mp_lf, mp_lt, mp_wc, mp_wm]
  exact this
/-- a set shows it just as all looks do -/
theorem sur_wi {v : eV} {so : Int64} (h : sur2 (canV v) so = true) (set : Nat) : (surN (wi v set) so = surN (canV v) so) = (gdS v (if surN (canV v) so = 1 then so ^^^ (-1) else so) set = true) := by
  have hc0 : canV v ≠ 0 := fun z => by
    unfold sur2 surN at h
    rw [if_pos z] at h
    exact absurd h (by decide)
  have hw0 : wi v set ≠ 0 := fun z => hc0 (t_ext fun w hw => by
    rw [t_0]
    by_cases y : tb (canV v) w = true
    · have := can_wi set y
      rw [z, t_0] at this; cases this
    · rwa [Bool.not_eq_true] at y)
  unfold gdS
  rw [decide_eq_true_iff]
  apply propext
  by_cases h1 : canV v &&& (so ^^^ (-1)) = 0
  · have e1 : surN (canV v) so = 1 := by unfold surN; rw [if_neg hc0, if_pos h1]
    rw [e1, if_pos rfl]
    unfold surN
    rw [if_neg hw0]
    by_cases h2 : wi v set &&& (so ^^^ (-1)) = 0
    · rw [if_pos h2]
      exact ⟨fun _ => h2, fun _ => rfl⟩
    · rw [if_neg h2]
      constructor
      · intro z
        by_cases h3 : wi v set &&& so = 0
        · rw [if_pos h3] at z; exact absurd z (by decide)
        · rw [if_neg h3] at z; exact absurd z (by decide)
      · intro z; exact absurd z h2
  · have hw1 : ¬ wi v set &&& (so ^^^ (-1)) = 0 := fun z => h1 ((eq0_iff _).mpr fun w hw => by
      have := (eq0_iff _).mp z w hw
      rw [t_and] at this ⊢
      by_cases y : tb (canV v) w = true
      · rw [can_wi set y, Bool.true_and] at this; rw [this, Bool.and_false]
      · rw [Bool.not_eq_true] at y; rw [y, Bool.false_and])
    by_cases h2 : canV v &&& so = 0
    · have e0 : surN (canV v) so = 0 := by unfold surN; rw [if_neg hc0, if_neg h1, if_pos h2]
      rw [e0, if_neg (by decide)]
      unfold surN
      rw [if_neg hw0, if_neg hw1]
      by_cases h3 : wi v set &&& so = 0
      · rw [if_pos h3]
        exact ⟨fun _ => h3, fun _ => rfl⟩
      · rw [if_neg h3]
        exact ⟨fun z => absurd z (by decide), fun z => absurd z h3⟩
    · exfalso
      unfold sur2 surN at h
      rw [if_neg hc0, if_neg h1, if_neg h2] at h
      exact absurd h (by decide)
theorem wi_com_all {v : eV} (hv : Va v) (set : Nat) : wi v set &&& allM v = wi v set := t_ext fun w hw => by
  rw [t_and]
  by_cases z : tb (wi v set) w = true
  · unfold allM; rw [z, t_mk _ hw, decide_eq_true (wi_lt hv z)]; rfl
  · rw [Bool.not_eq_true] at z; rw [z]; rfl
theorem bits_what (d : Nat) (w : Int32) {b : Nat} (hb : b < 4096) (m : eM) : (if ¬ w = 0 then (yI (oI (some b)) m) else (bI (Mo_bits d (oI (some b)).toInt64 m) fun v2 m1 => yI v2 m1)) = yI (sos (some b) w) m := by
  show (if ¬ w = 0 then yI (nI b) m else bI (Mo_bits d (nI b).toInt64 m) _) = yI (if w = 0 then nI (pcN b) else nI b) m
  rw [bitsI _ (by omega), bI_y]
  by_cases z : w = 0
  · rw [if_neg (fun q => q z), if_pos z]
  · rw [if_pos z, if_neg z]
theorem Mo_proof_55_s {v : eV} (hv : Va v) {m : eM} (h : Mp v m) (hs : Sk m) (hft : ∀ k, k < nL v → gL m 247 k = fitM v k) (d : Nat) {s : Nat} (hsS : s < nS v) (w : Int32) (hsur : sur2 (canV v) (soV v s) = true) : ∀ j n, n + j = 2 ^ nL v → Mo_proof_55 (d + 1) 208 (nI s) w (surN (canV v) (soV v s)) (oI (few (gdS v (if surN (canV v) (soV v s) = 1 then soV v s ^^^ (-1) else soV v s)) n)) (nI n) m = yI (sos (few (gdS v (if surN (canV v) (soV v s) = 1 then soV v s ^^^ (-1) else soV v s)) (2 ^ nL v)) w) m
  | 0, n, e => by
    have hnF := hv.f; have hnPl := hv.pl; have hnP := hv.p; have hnC := hv.cm; have hnS := hv.s; have hnO := hv.o; have hnL := hv.l; have hnW := hv.wt; have hW := W_le hv; have hW0 := @W_pos v; have htr := hv.tr
    have hL := L_le hv
    have hL0 : 0 < 2 ^ nL v := Nat.two_pow_pos _
    rw [Mo_proof_55_e _ _ _ _ _ _ _ _ kd_208]
    simp (disch := first | assumption | omega) only [bR_s, n_cl, mp_l, shl1, n_le]
    rw [if_pos (by omega), show 2 ^ nL v = n by omega]
    have hb := few_b (g := gdS v (if surN (canV v) (soV v s) = 1 then soV v s ^^^ (-1) else soV v s)) (n := n) (N := 4096) (by omega)
    have hn : few (gdS v (if surN (canV v) (soV v s) = 1 then soV v s ^^^ (-1) else soV v s)) n ≠ none := few_some (k := n - 1) (by
      rw [show n - 1 = 2 ^ nL v - 1 by omega]
      have := sur_wi hsur (2 ^ nL v - 1)
      rw [wi_all] at this
      rw [← this]) (by omega)
    revert hb hn
    cases few (gdS v (if surN (canV v) (soV v s) = 1 then soV v s ^^^ (-1) else soV v s)) n with
    | none => intro _ z; exact absurd rfl z
    | some b => intro hb _; exact bits_what d w (hb b rfl) m
  | j + 1, n, e => by
    have hnF := hv.f; have hnPl := hv.pl; have hnP := hv.p; have hnC := hv.cm; have hnS := hv.s; have hnO := hv.o; have hnL := hv.l; have hnW := hv.wt; have hW := W_le hv; have hW0 := @W_pos v; have htr := hv.tr
    have hL := L_le hv
    have ih := Mo_proof_55_s hv h hs hft d hsS w hsur j (n + 1) (by omega)
    have hb := few_b (g := gdS v (if surN (canV v) (soV v s) = 1 then soV v s ^^^ (-1) else soV v s)) (n := n) (N := 4096) (by omega)
    have hg := sur_wi hsur n
    rw [Mo_proof_55_e _ _ _ _ _ _ _ _ kd_208]
    simp (disch := first | assumption | omega) only [bR_s, n_cl, mp_l, shl1, n_le, Mo_withLooks_s hv h hs hft d (show n < 4096 by omega), bL_y, rf_208_47, ga_239, mp_so, Mo_sureOf_s, bI_y, nI_1, hg]
    rw [if_neg (by omega), ← ih, few_s]
    by_cases z : gdS v (if surN (canV v) (soV v s) = 1 then soV v s ^^^ (-1) else soV v s) n = true
    · rw [if_neg (fun q => q z), z, Bool.true_and]
      refine (pick_s d (show n < 4096 by omega) hb m (fun m8 => Mo_proof_55 (d + 1) 208 (nI s) w (surN (canV v) (soV v s)) (nI n) (nI (n + 1)) m8) (fun m8 => Mo_proof_55 (d + 1) 208 (nI s) w (surN (canV v) (soV v s)) (oI (few (gdS v (if surN (canV v) (soV v s) = 1 then soV v s ^^^ (-1) else soV v s)) n)) (nI (n + 1)) m8)).trans ?_
      by_cases y : fwr n (few (gdS v (if surN (canV v) (soV v s) = 1 then soV v s ^^^ (-1) else soV v s)) n) = true
      · rw [if_pos y, if_pos y]; rfl
      · rw [if_neg y, if_neg y]
    · rw [if_pos z]
      rw [Bool.not_eq_true] at z
      rw [z, Bool.false_and]
      rfl
theorem Mo_proof_s {v : eV} (hv : Va v) {D : Nat} (hD : 6 ≤ D) {m : eM} (h : Mp v m) (s w : Int32) : ∃ m', Fr sQ m m' ∧ Mo_proof D 208 s w m = yI (sp_proof v s w) m' := by
  obtain ⟨d, rfl⟩ : ∃ d, D = d + 6 := ⟨D - 6, by omega⟩
  have hnF := hv.f; have hnPl := hv.pl; have hnP := hv.p; have hnC := hv.cm; have hnS := hv.s; have hnO := hv.o; have hnL := hv.l; have hnW := hv.wt; have hW := W_le hv; have hW0 := @W_pos v; have htr := hv.tr
  have h0 := th0 h
  rw [Mo_proof_e _ _ _ _ _ kd_208, mI_u, mp_s h0, inN_t, Mo_within_1, br1]
  unfold sp_proof
  by_cases z1 : inN s (nS v) = true
  · by_cases z2 : inN w 2 = true
    · rw [if_pos z1, if_pos z1, if_pos z2, if_pos z2]
      obtain ⟨k, hk, rfl⟩ := inN_of (by omega) z1
      obtain ⟨m1, f1, e1, -, hft⟩ := Mo_canBe_s hv (show 5 ≤ d + 5 by omega) h0
      have h1 := h0.q f1
      have hs := h1.sk
      refine ⟨m1, f0.tr f1, ?_⟩
      rw [e1, bL_y, rf_208_47 hs, bR_s, ga_239 (by omega), n_cl (by omega), mp_so h1 (by omega), Mo_sureOf_s, bI_y]
      by_cases y : sur2 (canV v) (soV v k) = true
      · rw [if_pos (by unfold sur2 at y; rcases of_decide_eq_true y with q | q <;> rw [q] <;> decide), if_pos y]
        exact Mo_proof_55_s hv h1 hs hft (d + 5) hk w y (2 ^ nL v) 0 (by omega)
      · rw [if_neg y, if_neg]
        intro q
        apply y
        unfold sur2
        rcases surN_4 (canV v) (soV v k) with e | e | e | e
        · exact decide_eq_true (Or.inl e)
        · exact decide_eq_true (Or.inr e)
        · rw [e] at q; exact absurd q (by decide)
        · rw [e] at q; exact absurd q (by decide)
    · rw [if_pos z1, if_pos z1, if_neg z2, if_neg z2]
      exact ⟨_, f0, rfl⟩
  · rw [if_neg z1, if_neg z1]
    exact ⟨_, f0, rfl⟩
theorem Mo_clash_29_s {v : eV} (hv : Va v) {m : eM} (h : Mp v m) (hs : Sk m) (hft : ∀ k, k < nL v → gL m 247 k = fitM v k) (d : Nat) (w : Int32) (hc : canV v = 0) : ∀ j n, n + j = 2 ^ nL v → Mo_clash_29 (d + 1) 208 w (oI (few (gdS v (allM v)) n)) (nI n) m = yI (sos (few (gdS v (allM v)) (2 ^ nL v)) w) m
  | 0, n, e => by
    have hnF := hv.f; have hnPl := hv.pl; have hnP := hv.p; have hnC := hv.cm; have hnS := hv.s; have hnO := hv.o; have hnL := hv.l; have hnW := hv.wt; have hW := W_le hv; have hW0 := @W_pos v; have htr := hv.tr
    have hL := L_le hv
    have hL0 : 0 < 2 ^ nL v := Nat.two_pow_pos _
    rw [Mo_clash_29_e _ _ _ _ _ _ kd_208]
    simp (disch := first | assumption | omega) only [bR_s, n_cl, mp_l, shl1, n_le]
    rw [if_pos (by omega), show 2 ^ nL v = n by omega]
    have hb := few_b (g := gdS v (allM v)) (n := n) (N := 4096) (by omega)
    have hn : few (gdS v (allM v)) n ≠ none := few_some (k := n - 1) (by
      rw [show n - 1 = 2 ^ nL v - 1 by omega]
      unfold gdS
      rw [wi_com_all hv, wi_all]
      exact decide_eq_true hc) (by omega)
    revert hb hn
    cases few (gdS v (allM v)) n with
    | none => intro _ z; exact absurd rfl z
    | some b => intro hb _; exact bits_what d w (hb b rfl) m
  | j + 1, n, e => by
    have hnF := hv.f; have hnPl := hv.pl; have hnP := hv.p; have hnC := hv.cm; have hnS := hv.s; have hnO := hv.o; have hnL := hv.l; have hnW := hv.wt; have hW := W_le hv; have hW0 := @W_pos v; have htr := hv.tr
    have hL := L_le hv
    have ih := Mo_clash_29_s hv h hs hft d w hc j (n + 1) (by omega)
    have hb := few_b (g := gdS v (allM v)) (n := n) (N := 4096) (by omega)
    rw [Mo_clash_29_e _ _ _ _ _ _ kd_208]
    simp (disch := first | assumption | omega) only [bR_s, n_cl, mp_l, shl1, n_le, Mo_withLooks_s hv h hs hft d (show n < 4096 by omega), bL_y, cmp0, nI_1]
    rw [if_neg (by omega), ← ih, few_s]
    by_cases z : gdS v (allM v) n = true
    · have z' := z
      unfold gdS at z'
      rw [wi_com_all hv, decide_eq_true_iff] at z'
      rw [if_neg (fun q => q z'), z, Bool.true_and]
      refine (pick_s d (show n < 4096 by omega) hb m (fun m8 => Mo_clash_29 (d + 1) 208 w (nI n) (nI (n + 1)) m8) (fun m8 => Mo_clash_29 (d + 1) 208 w (oI (few (gdS v (allM v)) n)) (nI (n + 1)) m8)).trans ?_
      by_cases y : fwr n (few (gdS v (allM v)) n) = true
      · rw [if_pos y, if_pos y]; rfl
      · rw [if_neg y, if_neg y]
    · have z' := z
      unfold gdS at z'
      rw [wi_com_all hv, decide_eq_true_iff] at z'
      rw [if_pos z']
      rw [Bool.not_eq_true] at z
      rw [z, Bool.false_and]
      rfl
theorem Mo_clash_s {v : eV} (hv : Va v) {D : Nat} (hD : 6 ≤ D) {m : eM} (h : Mp v m) (w : Int32) : ∃ m', Fr sQ m m' ∧ Mo_clash D 208 w m = yI (sp_clash v w) m' := by
  obtain ⟨d, rfl⟩ : ∃ d, D = d + 6 := ⟨D - 6, by omega⟩
  have h0 := th0 h
  rw [Mo_clash_e _ _ _ _ kd_208, mI_u, Mo_within_1, br0]
  unfold sp_clash
  by_cases z2 : inN w 2 = true
  · rw [if_pos z2, if_pos z2]
    obtain ⟨m1, f1, e1, -, hft⟩ := Mo_canBe_s hv (show 5 ≤ d + 5 by omega) h0
    have h1 := h0.q f1
    have hs := h1.sk
    refine ⟨m1, f0.tr f1, ?_⟩
    rw [e1, bL_y]
    by_cases y : canV v = 0
    · rw [if_pos ((cmp0 _ _).mpr y), if_pos y]
      exact Mo_clash_29_s hv h1 hs hft (d + 5) w y (2 ^ nL v) 0 (by omega)
    · rw [if_neg (fun q => y ((cmp0 _ _).mp q)), if_neg y]
  · rw [if_neg z2, if_neg z2]
    exact ⟨_, f0, rfl⟩
