/-! ===== fewest sets; TOLD, FEWEST ===== -/
def fwr (n : Nat) (o : Option Nat) : Bool := match o with
  | none => true
  | some b => decide (pcN n < pcN b)
def few (good : Nat → Bool) : Nat → Option Nat
  | 0 => none
  | n + 1 => if (good n && fwr n (few good n)) = true then some n else few good n
def oI (o : Option Nat) : Int32 := match o with
  | none => -1
  | some b => nI b
def sos (o : Option Nat) (w : Int32) : Int32 := match o with
  | none => -1
  | some b => if w = 0 then nI (pcN b) else nI b
theorem few_s (good : Nat → Bool) (n : Nat) : few good (n + 1) = if (good n && fwr n (few good n)) = true then some n else few good n := rfl
theorem few_lt {good : Nat → Bool} : ∀ {n b : Nat}, few good n = some b → b < n ∧ good b = true
  | 0, _, h => by cases h
  | n + 1, b, h => by
    rw [few_s] at h
    by_cases z : (good n && fwr n (few good n)) = true
    · rw [if_pos z] at h
      cases h
      rw [Bool.and_eq_true] at z
      exact ⟨by omega, z.1⟩
    · rw [if_neg z] at h
      have := few_lt h
      exact ⟨by omega, this.2⟩
theorem few_c {g g' : Nat → Bool} : ∀ {n : Nat}, (∀ k, k < n → g k = g' k) → few g n = few g' n
  | 0, _ => rfl
  | n + 1, h => by rw [few_s, few_s, few_c fun k hk => h k (by omega), h n (by omega)]
theorem few_some {g : Nat → Bool} {k : Nat} (hk : g k = true) : ∀ {n : Nat}, k < n → few g n ≠ none
  | 0, h => absurd h (Nat.not_lt_zero k)
  | n + 1, h => by
    rw [few_s]
    by_cases e : few g n = none
    · rw [e]
      have : k = n := by
        rcases Nat.lt_or_ge k n with z | z
        · exact absurd e (few_some hk z)
        · omega
      subst this
      rw [hk]
      exact fun z => by cases z
    · split
      · exact fun z => by cases z
      · exact e
theorem bitsI (d : Nat) {n : Nat} (hn : n < 2147483648) (m : eM) : Mo_bits d (nI n).toInt64 m = yI (nI (pcN n)) m := by
  rw [Mo_bits_s, nI_l hn, pcL_N (by omega)]
theorem LC_isFewer_s {D : Nat} (hD : 1 ≤ D) {n : Nat} (hn : n < 4096) {o : Option Nat} (ho : ∀ b, o = some b → b < 4096) (m : eM) : LC_isFewer D (nI n) (oI o) m = yI (bb (fwr n o)) m := by
  obtain ⟨d, rfl⟩ : ∃ d, D = d + 1 := ⟨D - 1, by omega⟩
  rw [LC_isFewer_e]
  cases o with
  | none => exact if_pos rfl
  | some b =>
    have hb := ho b rfl
    have h1 := pcN_le n
    have h2 := pcN_le b
    show (if nI b = -1 then _ else _) = _
    rw [if_neg (by rw [n_ne_neg1 (by omega)]; exact id), In_bitCount_s _ hn, bI_y]
    show (bI (In_bitCount d (nI b) m) _) = _
    rw [In_bitCount_s _ hb, bI_y]
    show _ = yI (bb (decide (pcN n < pcN b))) m
    by_cases z : pcN n < pcN b
    · rw [if_neg (by rw [n_le (by omega) (by omega)]; omega), decide_eq_true z]; rfl
    · rw [if_pos (by rw [n_le (by omega) (by omega)]; omega), decide_eq_false z]; rfl
theorem LC_sizeOrSet_s {D : Nat} (hD : 1 ≤ D) {o : Option Nat} (ho : ∀ b, o = some b → b < 4096) (w : Int32) (m : eM) : LC_sizeOrSet D (oI o) w m = yI (sos o w) m := by
  obtain ⟨d, rfl⟩ : ∃ d, D = d + 1 := ⟨D - 1, by omega⟩
  rw [LC_sizeOrSet_e]
  cases o with
  | none => exact if_neg (fun z => z rfl)
  | some b =>
    have hb := ho b rfl
    show (if ¬ nI b = -1 then (if ¬ w = 0 then yI (nI b) m else bI (In_bitCount d (nI b) m) _) else _) = _
    rw [if_pos (by rw [n_ne_neg1 (by omega)]; exact id), In_bitCount_s _ hb, bI_y]
    show _ = yI (if w = 0 then nI (pcN b) else nI b) m
    by_cases z : w = 0
    · rw [if_neg (fun q => q z), if_pos z]
    · rw [if_pos z, if_neg z]
/-- the reference's choice of the better set -/
theorem pick_s (d : Nat) {n : Nat} (hn : n < 4096) {o : Option Nat} (ho : ∀ b, o = some b → b < 4096) (m : eM) (A B : eM → oX) : (if oI o < 0 then A m else (bI (Mo_bits d (nI n).toInt64 m) fun v9 m8 => bI (Mo_bits d (oI o).toInt64 m8) fun v11 m10 => if v11 ≤ v9 then B m10 else A m10)) = if fwr n o = true then A m else B m := by
  cases o with
  | none => rfl
  | some b =>
    have hb := ho b rfl
    have h1 := pcN_le n
    have h2 := pcN_le b
    show (if nI b < 0 then A m else _) = if decide (pcN n < pcN b) = true then A m else B m
    rw [if_neg (nI_pos (by omega)), bitsI _ (by omega), bI_y]
    show (bI (Mo_bits d (nI b).toInt64 m) _) = _
    rw [bitsI _ (by omega), bI_y]
    by_cases z : pcN n < pcN b
    · rw [if_neg (by rw [n_le (by omega) (by omega)]; omega), if_pos (decide_eq_true z)]
    · rw [if_pos (by rw [n_le (by omega) (by omega)]; omega), if_neg (by rw [decide_eq_false z]; decide)]
def knw (v : eV) (set : Nat) : Nat → Nat
  | 0 => 0
  | k + 1 => knw v set k ||| (if set.testBit k = true then kno v k else 0)
def tolN (v : eV) (L : Int64) : Nat → Nat
  | 0 => 0
  | f + 1 => tolN v L f ||| (if sur2 L (facM v f) = true then 2 ^ f else 0)
def tolV (v : eV) (set : Nat) : Nat := tolN v (mk (likeV v (knw v set (nP v)) (tru v))) (nF v)
theorem knw_lt {v : eV} (hv : Va v) (set : Nat) : ∀ k, k ≤ nP v → knw v set k < 2 ^ nF v
  | 0, _ => Nat.two_pow_pos _
  | k + 1, hk => by
    have := knw_lt hv set k (by omega)
    unfold knw
    refine Nat.or_lt_two_pow this ?_
    split
    · exact hv.kn (by omega)
    · exact Nat.two_pow_pos _
theorem tolN_lt (v : eV) (L : Int64) : ∀ k, tolN v L k < 2 ^ k
  | 0 => Nat.one_pos
  | k + 1 => by
    have := tolN_lt v L k
    have h2 : 2 ^ k < 2 ^ (k + 1) := Nat.pow_lt_pow_right (by decide) (by omega)
    unfold tolN
    refine Nat.or_lt_two_pow (Nat.lt_trans this h2) ?_
    split
    · exact h2
    · exact Nat.two_pow_pos _
theorem tolV_lt {v : eV} (hv : Va v) (set : Nat) : tolV v set < 64 := Nat.lt_of_lt_of_le (tolN_lt v _ _) (W_le hv)
theorem tolN_0 (v : eV) : ∀ k, tolN v 0 k = 0
  | 0 => rfl
  | k + 1 => by
    have e : sur2 0 (facM v k) = false := by
      unfold sur2 surN
      rw [if_pos rfl]
      decide
    unfold tolN
    rw [tolN_0 v k, e, if_neg (by decide)]
    rfl
def sp_told (v : eV) (x : Int32) : Int32 := if inN x (2 ^ nP v) = true then nI (tolV v x.toNatClampNeg) else -1
def sp_fewest (v : eV) (f w : Int32) : Int32 := if inN f (nF v) = true then (if inN w 2 = true then sos (few (fun set => (tolV v set).testBit f.toNatClampNeg) (2 ^ nP v)) w else -1) else -1
theorem Mo_within_1 (d : Nat) (x : Int32) (m : eM) : Mo_within d x 0 1 m = yI (bb (inN x 2)) m := Mo_within_s d x (k := 1) (by decide) m
/-! the reference -/
theorem Mo_toldBy_58_s {v : eV} (hv : Va v) {m : eM} (h : Mp v m) (hs : Sk m) (d : Nat) (x1 x2 : Int32) (L : Int64) : ∀ j f, f + j = nF v → Mo_toldBy_58 (d + 1) 208 x1 x2 L (nI (tolN v L f)) (nI f) m = yI (nI (tolN v L (nF v))) m
  | 0, f, e => by
    have hnF := hv.f; have hnPl := hv.pl; have hnP := hv.p; have hnC := hv.cm; have hnS := hv.s; have hnO := hv.o; have hnL := hv.l; have hnW := hv.wt; have hW := W_le hv; have hW0 := @W_pos v; have htr := hv.tr
    rw [Mo_toldBy_58_e _ _ _ _ _ _ _ _ kd_208]
    simp (disch := first | assumption | omega) only [bR_s, bI_y, bL_y, bV_y, mI_u, mJ_u, mQ_u, lI_u, lL_u, toI, gI_sI, gI_sL, gL_sI, gL_sL, gR_sI, gR_sL, bb_0, bb_1, n_lt0, n_ge0, n_eq, n_le, n_lt, n_eq0, n_eq1, n_le0, n_cl, n_cl0, n_cl1, nI_1, nI_add, false_and, and_false, true_and, and_true, if_true, if_false, not_true, not_false_iff, Classical.not_not, eq_self, Bool.false_eq_true, not_lt_zero, Nat.reduceEqDiff, Nat.reduceAdd, Nat.reduceSub, Nat.reduceMul, Nat.reduceLeDiff, Nat.reduceLT, l_2, l_3, l_4, l_5, l_6, l_7, l_8, l_9, l_10, l_12, l_15, l_16, l_18, l_20, l_21, l_22, l_24, l_25, l_26, l_27, l_28, l_29, l_30, l_32, l_36, l_40, l_41, l_42, l_43, l_45, l_48, l_56, l_57, l_59, l_60, l_61, l_62, l_63, l_64, l_97, l_99, l_100, l_122, l_126, l_127, l_168, l_180, l_255, l_300, l_359, l_360, l_400, l_1000, l_1200, l_1439, l_1440, l_1536, l_4096, rf_208_2, rf_208_10, rf_208_11, rf_208_12, rf_208_13, rf_208_14, rf_208_15, rf_208_16, rf_208_17, rf_208_18, rf_208_19, rf_208_20, rf_208_21, rf_208_22, rf_208_24, rf_208_25, rf_208_26, rf_208_27, rf_208_28, rf_208_29, rf_208_30, rf_208_31, rf_208_32, rf_208_33, rf_208_34, rf_208_35, rf_208_36, rf_208_39, rf_208_45, rf_208_46, rf_208_47, rf_208_48, rf_208_49, rf_208_51, rf_208_52, rf_208_53, rf_208_54, rf_208_55, rf_208_56, rf_208_57, rf_208_58, rf_208_59, rf_208_60, rf_208_62, rf_208_63, rf_208_64, rf_208_65, rf_208_66, rf_208_67, gl_209, ga_209, gw_209, al_209, gz_209, gy_209, gx_209, gl_210, ga_210, gw_210, al_210, gz_210, gy_210, gx_210, gl_211, ga_211, gw_211, al_211, gz_211, gy_211, gx_211, gl_212, ga_212, gw_212, al_212, gz_212, gy_212, gx_212, gl_213, ga_213, gw_213, al_213, gz_213, gy_213, gx_213, gl_214, ga_214, gw_214, al_214, gz_214, gy_214, gx_214, gl_215, ga_215, gw_215, al_215, gz_215, gy_215, gx_215, gl_216, ga_216, gw_216, al_216, gz_216, gy_216, gx_216, gl_217, ga_217, gw_217, al_217, gz_217, gy_217, gx_217, gl_218, ga_218, gw_218, al_218, gz_218, gy_218, gx_218, gl_219, ga_219, gw_219, al_219, gz_219, gy_219, gx_219, gl_220, ga_220, gw_220, al_220, gz_220, gy_220, gx_220, gl_221, ga_221, gw_221, al_221, gz_221, gy_221, gx_221, gl_222, ga_222, gw_222, al_222, gz_222, gy_222, gx_222, gl_223, ga_223, gw_223, al_223, gz_223, gy_223, gx_223, gl_224, ga_224, gw_224, al_224, gz_224, gy_224, gx_224, gl_225, ga_225, gw_225, al_225, gz_225, gy_225, gx_225, gl_226, ga_226, gw_226, al_226, gz_226, gy_226, gx_226, gl_227, ga_227, gw_227, al_227, gz_227, gy_227, gx_227, gl_228, ga_228, gw_228, al_228, gz_228, gy_228, gx_228, gl_229, ga_229, gw_229, al_229, gz_229, gy_229, gx_229, gl_230, ga_230, gw_230, al_230, gz_230, gy_230, gx_230, gl_231, ga_231, gw_231, al_231, gz_231, gy_231, gx_231, gl_232, ga_232, gw_232, al_232, gz_232, gy_232, gx_232, gl_233, ga_233, gw_233, al_233, gz_233, gy_233, gx_233, gl_234, ga_234, gw_234, al_234, gz_234, gy_234, gx_234, gl_235, ga_235, gw_235, al_235, gz_235, gy_235, gx_235, gl_236, ga_236, gw_236, al_236, gz_236, gy_236, gx_236, gl_237, ga_237, gw_237, al_237, gz_237, gy_237, gx_237, gl_238, ga_238, gw_238, al_238, gz_238, gy_238, gx_238, gl_239, ga_239, gw_239, al_239, gz_239, gy_239, gx_239, gl_240, ga_240, gw_240, al_240, gz_240, gy_240, gx_240, gl_241, ga_241, gw_241, al_241, gz_241, gy_241, gx_241, gl_242, ga_242, gw_242, al_242, gz_242, gy_242, gx_242, gl_243, ga_243, gw_243, al_243, gz_243, gy_243, gx_243, gl_244, ga_244, gw_244, al_244, gz_244, gy_244, gx_244, gl_245, ga_245, gw_245, al_245, gz_245, gy_245, gx_245, gl_246, ga_246, gw_246, al_246, gz_246, gy_246, gx_246, gl_247, ga_247, gw_247, al_247, gz_247, gy_247, gx_247, gl_248, ga_248, gw_248, al_248, gz_248, gy_248, gx_248, gl_249, ga_249, gw_249, al_249, gz_249, gy_249, gx_249, gl_250, ga_250, gw_250, al_250, gz_250, gy_250, gx_250, gl_251, ga_251, gw_251, al_251, gz_251, gy_251, gx_251, gl_252, ga_252, gw_252, al_252, gz_252, gy_252, gx_252, gl_253, ga_253, gw_253, al_253, gz_253, gy_253, gx_253, gl_254, ga_254, gw_254, al_254, gz_254, gy_254, gx_254, gl_255, ga_255, gw_255, al_255, gz_255, gy_255, gx_255, gl_256, ga_256, gw_256, al_256, gz_256, gy_256, gx_256, gl_257, ga_257, gw_257, al_257, gz_257, gy_257, gx_257, mp_f, mp_pl, mp_p, mp_cm, mp_s, mp_o, mp_l, mp_w, mp_t, mp_cha, mp_bea, mp_hom, mp_kno, mp_law, mp_lat, mp_isc, mp_who, mp_whn, mp_isq, mp_so, mp_com, mp_lc, mp_lm, mp_lf, mp_lt, mp_wc, mp_wm]
    rw [if_pos (by omega), show nF v = f by omega]
  | j + 1, f, e => by
    have hnF := hv.f; have hnPl := hv.pl; have hnP := hv.p; have hnC := hv.cm; have hnS := hv.s; have hnO := hv.o; have hnL := hv.l; have hnW := hv.wt; have hW := W_le hv; have hW0 := @W_pos v; have htr := hv.tr
    have ih := Mo_toldBy_58_s hv h hs d x1 x2 L j (f + 1) (by omega)
    rw [Mo_toldBy_58_e _ _ _ _ _ _ _ _ kd_208]
    simp (disch := first | assumption | omega) only [bR_s, bI_y, bL_y, bV_y, mI_u, mJ_u, mQ_u, lI_u, lL_u, toI, gI_sI, gI_sL, gL_sI, gL_sL, gR_sI, gR_sL, bb_0, bb_1, n_lt0, n_ge0, n_eq, n_le, n_lt, n_eq0, n_eq1, n_le0, n_cl, n_cl0, n_cl1, nI_1, nI_add, false_and, and_false, true_and, and_true, if_true, if_false, not_true, not_false_iff, Classical.not_not, eq_self, Bool.false_eq_true, not_lt_zero, Nat.reduceEqDiff, Nat.reduceAdd, Nat.reduceSub, Nat.reduceMul, Nat.reduceLeDiff, Nat.reduceLT, rf_208_2, rf_208_10, rf_208_11, rf_208_12, rf_208_13, rf_208_14, rf_208_15, rf_208_16, rf_208_17, rf_208_18, rf_208_19, rf_208_20, rf_208_21, rf_208_22, rf_208_24, rf_208_25, rf_208_26, rf_208_27, rf_208_28, rf_208_29, rf_208_30, rf_208_31, rf_208_32, rf_208_33, rf_208_34, rf_208_35, rf_208_36, rf_208_39, rf_208_45, rf_208_46, rf_208_47, rf_208_48, rf_208_49, rf_208_51, rf_208_52, rf_208_53, rf_208_54, rf_208_55, rf_208_56, rf_208_57, rf_208_58, rf_208_59, rf_208_60, rf_208_62, rf_208_63, rf_208_64, rf_208_65, rf_208_66, rf_208_67, gl_209, ga_209, gw_209, al_209, gz_209, gy_209, gx_209, gl_210, ga_210, gw_210, al_210, gz_210, gy_210, gx_210, gl_211, ga_211, gw_211, al_211, gz_211, gy_211, gx_211, gl_212, ga_212, gw_212, al_212, gz_212, gy_212, gx_212, gl_213, ga_213, gw_213, al_213, gz_213, gy_213, gx_213, gl_214, ga_214, gw_214, al_214, gz_214, gy_214, gx_214, gl_215, ga_215, gw_215, al_215, gz_215, gy_215, gx_215, gl_216, ga_216, gw_216, al_216, gz_216, gy_216, gx_216, gl_217, ga_217, gw_217, al_217, gz_217, gy_217, gx_217, gl_218, ga_218, gw_218, al_218, gz_218, gy_218, gx_218, gl_219, ga_219, gw_219, al_219, gz_219, gy_219, gx_219, gl_220, ga_220, gw_220, al_220, gz_220, gy_220, gx_220, gl_221, ga_221, gw_221, al_221, gz_221, gy_221, gx_221, gl_222, ga_222, gw_222, al_222, gz_222, gy_222, gx_222, gl_223, ga_223, gw_223, al_223, gz_223, gy_223, gx_223, gl_224, ga_224, gw_224, al_224, gz_224, gy_224, gx_224, gl_225, ga_225, gw_225, al_225, gz_225, gy_225, gx_225, gl_226, ga_226, gw_226, al_226, gz_226, gy_226, gx_226, gl_227, ga_227, gw_227, al_227, gz_227, gy_227, gx_227, gl_228, ga_228, gw_228, al_228, gz_228, gy_228, gx_228, gl_229, ga_229, gw_229, al_229, gz_229, gy_229, gx_229, gl_230, ga_230, gw_230, al_230, gz_230, gy_230, gx_230, gl_231, ga_231, gw_231, al_231, gz_231, gy_231, gx_231, gl_232, ga_232, gw_232, al_232, gz_232, gy_232, gx_232, gl_233, ga_233, gw_233, al_233, gz_233, gy_233, gx_233, gl_234, ga_234, gw_234, al_234, gz_234, gy_234, gx_234, gl_235, ga_235, gw_235, al_235, gz_235, gy_235, gx_235, gl_236, ga_236, gw_236, al_236, gz_236, gy_236, gx_236, gl_237, ga_237, gw_237, al_237, gz_237, gy_237, gx_237, gl_238, ga_238, gw_238, al_238, gz_238, gy_238, gx_238, gl_239, ga_239, gw_239, al_239, gz_239, gy_239, gx_239, gl_240, ga_240, gw_240, al_240, gz_240, gy_240, gx_240, gl_241, ga_241, gw_241, al_241, gz_241, gy_241, gx_241, gl_242, ga_242, gw_242, al_242, gz_242, gy_242, gx_242, gl_243, ga_243, gw_243, al_243, gz_243, gy_243, gx_243, gl_244, ga_244, gw_244, al_244, gz_244, gy_244, gx_244, gl_245, ga_245, gw_245, al_245, gz_245, gy_245, gx_245, gl_246, ga_246, gw_246, al_246, gz_246, gy_246, gx_246, gl_247, ga_247, gw_247, al_247, gz_247, gy_247, gx_247, gl_248, ga_248, gw_248, al_248, gz_248, gy_248, gx_248, gl_249, ga_249, gw_249, al_249, gz_249, gy_249, gx_249, gl_250, ga_250, gw_250, al_250, gz_250, gy_250, gx_250, gl_251, ga_251, gw_251, al_251, gz_251, gy_251, gx_251, gl_252, ga_252, gw_252, al_252, gz_252, gy_252, gx_252, gl_253, ga_253, gw_253, al_253, gz_253, gy_253, gx_253, gl_254, ga_254, gw_254, al_254, gz_254, gy_254, gx_254, gl_255, ga_255, gw_255, al_255, gz_255, gy_255, gx_255, gl_256, ga_256, gw_256, al_256, gz_256, gy_256, gx_256, gl_257, ga_257, gw_257, al_257, gz_257, gy_257, gx_257, mp_f, mp_pl, mp_p, mp_cm, mp_s, mp_o, mp_l, mp_w, mp_t, mp_cha, mp_bea, mp_hom, mp_kno, mp_law, mp_lat, mp_isc, mp_who, mp_whn, mp_isq, mp_so, mp_com, mp_lc, mp_lm, mp_lf, mp_lt, mp_wc, mp_wm, Mo_factSet_s hv h hs _ (show f < 6 by omega), Mo_sureOf_s, cmp0, sur2_2]
    rw [if_neg (by omega)]
    by_cases z : L = 0
    · rw [if_pos z, z, tolN_0, tolN_0]
    · have es : tolN v L (f + 1) = tolN v L f ||| (if sur2 L (facM v f) = true then 2 ^ f else 0) := rfl
      rw [if_neg z, ← ih, show (0 : Int32) = nI 0 from rfl, orN, shl1 _ (by omega), orN, es]
      by_cases y : sur2 L (facM v f) = true
      · rw [if_neg (by rw [y]; decide), if_pos y]
      · rw [if_pos (by rwa [Bool.not_eq_true] at y), if_neg y]
theorem Mo_toldBy_4_s {v : eV} (hv : Va v) {m : eM} (h : Mp v m) (hs : Sk m) (d : Nat) {set : Nat} (hset : set < 64) : ∀ j k, k + j = nP v → Mo_toldBy_4 (d + 2) 208 (nI set) (nI (knw v set k)) (nI k) m = yI (nI (tolV v set)) m
  | 0, k, e => by
    have hnF := hv.f; have hnPl := hv.pl; have hnP := hv.p; have hnC := hv.cm; have hnS := hv.s; have hnO := hv.o; have hnL := hv.l; have hnW := hv.wt; have hW := W_le hv; have hW0 := @W_pos v; have htr := hv.tr
    have hk := knw_lt hv set k (by omega)
    have := Mo_toldBy_58_s hv h hs (d + 1) (nI set) (nI (knw v set k)) (mk (likeV v (knw v set k) (tru v))) (nF v) 0 (by omega)
    rw [Mo_toldBy_4_e _ _ _ _ _ _ kd_208]
    simp (disch := first | assumption | omega) only [bR_s, bI_y, bL_y, bV_y, mI_u, mJ_u, mQ_u, lI_u, lL_u, toI, gI_sI, gI_sL, gL_sI, gL_sL, gR_sI, gR_sL, bb_0, bb_1, n_lt0, n_ge0, n_eq, n_le, n_lt, n_eq0, n_eq1, n_le0, n_cl, n_cl0, n_cl1, nI_1, nI_add, false_and, and_false, true_and, and_true, if_true, if_false, not_true, not_false_iff, Classical.not_not, eq_self, Bool.false_eq_true, not_lt_zero, Nat.reduceEqDiff, Nat.reduceAdd, Nat.reduceSub, Nat.reduceMul, Nat.reduceLeDiff, Nat.reduceLT, l_2, l_3, l_4, l_5, l_6, l_7, l_8, l_9, l_10, l_12, l_15, l_16, l_18, l_20, l_21, l_22, l_24, l_25, l_26, l_27, l_28, l_29, l_30, l_32, l_36, l_40, l_41, l_42, l_43, l_45, l_48, l_56, l_57, l_59, l_60, l_61, l_62, l_63, l_64, l_97, l_99, l_100, l_122, l_126, l_127, l_168, l_180, l_255, l_300, l_359, l_360, l_400, l_1000, l_1200, l_1439, l_1440, l_1536, l_4096, rf_208_2, rf_208_10, rf_208_11, rf_208_12, rf_208_13, rf_208_14, rf_208_15, rf_208_16, rf_208_17, rf_208_18, rf_208_19, rf_208_20, rf_208_21, rf_208_22, rf_208_24, rf_208_25, rf_208_26, rf_208_27, rf_208_28, rf_208_29, rf_208_30, rf_208_31, rf_208_32, rf_208_33, rf_208_34, rf_208_35, rf_208_36, rf_208_39, rf_208_45, rf_208_46, rf_208_47, rf_208_48, rf_208_49, rf_208_51, rf_208_52, rf_208_53, rf_208_54, rf_208_55, rf_208_56, rf_208_57, rf_208_58, rf_208_59, rf_208_60, rf_208_62, rf_208_63, rf_208_64, rf_208_65, rf_208_66, rf_208_67, gl_209, ga_209, gw_209, al_209, gz_209, gy_209, gx_209, gl_210, ga_210, gw_210, al_210, gz_210, gy_210, gx_210, gl_211, ga_211, gw_211, al_211, gz_211, gy_211, gx_211, gl_212, ga_212, gw_212, al_212, gz_212, gy_212, gx_212, gl_213, ga_213, gw_213, al_213, gz_213, gy_213, gx_213, gl_214, ga_214, gw_214, al_214, gz_214, gy_214, gx_214, gl_215, ga_215, gw_215, al_215, gz_215, gy_215, gx_215, gl_216, ga_216, gw_216, al_216, gz_216, gy_216, gx_216, gl_217, ga_217, gw_217, al_217, gz_217, gy_217, gx_217, gl_218, ga_218, gw_218, al_218, gz_218, gy_218, gx_218, gl_219, ga_219, gw_219, al_219, gz_219, gy_219, gx_219, gl_220, ga_220, gw_220, al_220, gz_220, gy_220, gx_220, gl_221, ga_221, gw_221, al_221, gz_221, gy_221, gx_221, gl_222, ga_222, gw_222, al_222, gz_222, gy_222, gx_222, gl_223, ga_223, gw_223, al_223, gz_223, gy_223, gx_223, gl_224, ga_224, gw_224, al_224, gz_224, gy_224, gx_224, gl_225, ga_225, gw_225, al_225, gz_225, gy_225, gx_225, gl_226, ga_226, gw_226, al_226, gz_226, gy_226, gx_226, gl_227, ga_227, gw_227, al_227, gz_227, gy_227, gx_227, gl_228, ga_228, gw_228, al_228, gz_228, gy_228, gx_228, gl_229, ga_229, gw_229, al_229, gz_229, gy_229, gx_229, gl_230, ga_230, gw_230, al_230, gz_230, gy_230, gx_230, gl_231, ga_231, gw_231, al_231, gz_231, gy_231, gx_231, gl_232, ga_232, gw_232, al_232, gz_232, gy_232, gx_232, gl_233, ga_233, gw_233, al_233, gz_233, gy_233, gx_233, gl_234, ga_234, gw_234, al_234, gz_234, gy_234, gx_234, gl_235, ga_235, gw_235, al_235, gz_235, gy_235, gx_235, gl_236, ga_236, gw_236, al_236, gz_236, gy_236, gx_236, gl_237, ga_237, gw_237, al_237, gz_237, gy_237, gx_237, gl_238, ga_238, gw_238, al_238, gz_238, gy_238, gx_238, gl_239, ga_239, gw_239, al_239, gz_239, gy_239, gx_239, gl_240, ga_240, gw_240, al_240, gz_240, gy_240, gx_240, gl_241, ga_241, gw_241, al_241, gz_241, gy_241, gx_241, gl_242, ga_242, gw_242, al_242, gz_242, gy_242, gx_242, gl_243, ga_243, gw_243, al_243, gz_243, gy_243, gx_243, gl_244, ga_244, gw_244, al_244, gz_244, gy_244, gx_244, gl_245, ga_245, gw_245, al_245, gz_245, gy_245, gx_245, gl_246, ga_246, gw_246, al_246, gz_246, gy_246, gx_246, gl_247, ga_247, gw_247, al_247, gz_247, gy_247, gx_247, gl_248, ga_248, gw_248, al_248, gz_248, gy_248, gx_248, gl_249, ga_249, gw_249, al_249, gz_249, gy_249, gx_249, gl_250, ga_250, gw_250, al_250, gz_250, gy_250, gx_250, gl_251, ga_251, gw_251, al_251, gz_251, gy_251, gx_251, gl_252, ga_252, gw_252, al_252, gz_252, gy_252, gx_252, gl_253, ga_253, gw_253, al_253, gz_253, gy_253, gx_253, gl_254, ga_254, gw_254, al_254, gz_254, gy_254, gx_254, gl_255, ga_255, gw_255, al_255, gz_255, gy_255, gx_255, gl_256, ga_256, gw_256, al_256, gz_256, gy_256, gx_256, gl_257, ga_257, gw_257, al_257, gz_257, gy_257, gx_257, mp_f, mp_pl, mp_p, mp_cm, mp_s, mp_o, mp_l, mp_w, mp_t, mp_cha, mp_bea, mp_hom, mp_kno, mp_law, mp_lat, mp_isc, mp_who, mp_whn, mp_isq, mp_so, mp_com, mp_lc, mp_lm, mp_lf, mp_lt, mp_wc, mp_wm, Mo_likeFor_s hv h hs (show 1 ≤ d + 1 by omega) (show knw v set k < 64 by omega) (show tru v < 64 by omega)]
    rw [if_pos (by omega)]
    unfold tolV
    rw [show nP v = k by omega]
    exact this
  | j + 1, k, e => by
    have hnF := hv.f; have hnPl := hv.pl; have hnP := hv.p; have hnC := hv.cm; have hnS := hv.s; have hnO := hv.o; have hnL := hv.l; have hnW := hv.wt; have hW := W_le hv; have hW0 := @W_pos v; have htr := hv.tr
    have ih := Mo_toldBy_4_s hv h hs d hset j (k + 1) (by omega)
    rw [Mo_toldBy_4_e _ _ _ _ _ _ kd_208]
    simp (disch := first | assumption | omega) only [bR_s, bI_y, bL_y, bV_y, mI_u, mJ_u, mQ_u, lI_u, lL_u, toI, gI_sI, gI_sL, gL_sI, gL_sL, gR_sI, gR_sL, bb_0, bb_1, n_lt0, n_ge0, n_eq, n_le, n_lt, n_eq0, n_eq1, n_le0, n_cl, n_cl0, n_cl1, nI_1, nI_add, false_and, and_false, true_and, and_true, if_true, if_false, not_true, not_false_iff, Classical.not_not, eq_self, Bool.false_eq_true, not_lt_zero, Nat.reduceEqDiff, Nat.reduceAdd, Nat.reduceSub, Nat.reduceMul, Nat.reduceLeDiff, Nat.reduceLT, l_2, l_3, l_4, l_5, l_6, l_7, l_8, l_9, l_10, l_12, l_15, l_16, l_18, l_20, l_21, l_22, l_24, l_25, l_26, l_27, l_28, l_29, l_30, l_32, l_36, l_40, l_41, l_42, l_43, l_45, l_48, l_56, l_57, l_59, l_60, l_61, l_62, l_63, l_64, l_97, l_99, l_100, l_122, l_126, l_127, l_168, l_180, l_255, l_300, l_359, l_360, l_400, l_1000, l_1200, l_1439, l_1440, l_1536, l_4096, rf_208_2, rf_208_10, rf_208_11, rf_208_12, rf_208_13, rf_208_14, rf_208_15, rf_208_16, rf_208_17, rf_208_18, rf_208_19, rf_208_20, rf_208_21, rf_208_22, rf_208_24, rf_208_25, rf_208_26, rf_208_27, rf_208_28, rf_208_29, rf_208_30, rf_208_31, rf_208_32, rf_208_33, rf_208_34, rf_208_35, rf_208_36, rf_208_39, rf_208_45, rf_208_46, rf_208_47, rf_208_48, rf_208_49, rf_208_51, rf_208_52, rf_208_53, rf_208_54, rf_208_55, rf_208_56, rf_208_57, rf_208_58, rf_208_59, rf_208_60, rf_208_62, rf_208_63, rf_208_64, rf_208_65, rf_208_66, rf_208_67, gl_209, ga_209, gw_209, al_209, gz_209, gy_209, gx_209, gl_210, ga_210, gw_210, al_210, gz_210, gy_210, gx_210, gl_211, ga_211, gw_211, al_211, gz_211, gy_211, gx_211, gl_212, ga_212, gw_212, al_212, gz_212, gy_212, gx_212, gl_213, ga_213, gw_213, al_213, gz_213, gy_213, gx_213, gl_214, ga_214, gw_214, al_214, gz_214, gy_214, gx_214, gl_215, ga_215, gw_215, al_215, gz_215, gy_215, gx_215, gl_216, ga_216, gw_216, al_216, gz_216, gy_216, gx_216, gl_217, ga_217, gw_217, al_217, gz_217, gy_217, gx_217, gl_218, ga_218, gw_218, al_218, gz_218, gy_218, gx_218, gl_219, ga_219, gw_219, al_219, gz_219, gy_219, gx_219, gl_220, ga_220, gw_220, al_220, gz_220, gy_220, gx_220, gl_221, ga_221, gw_221, al_221, gz_221, gy_221, gx_221, gl_222, ga_222, gw_222, al_222, gz_222, gy_222, gx_222, gl_223, ga_223, gw_223, al_223, gz_223, gy_223, gx_223, gl_224, ga_224, gw_224, al_224, gz_224, gy_224, gx_224, gl_225, ga_225, gw_225, al_225, gz_225, gy_225, gx_225, gl_226, ga_226, gw_226, al_226, gz_226, gy_226, gx_226, gl_227, ga_227, gw_227, al_227, gz_227, gy_227, gx_227, gl_228, ga_228, gw_228, al_228, gz_228, gy_228, gx_228, gl_229, ga_229, gw_229, al_229, gz_229, gy_229, gx_229, gl_230, ga_230, gw_230, al_230, gz_230, gy_230, gx_230, gl_231, ga_231, gw_231, al_231, gz_231, gy_231, gx_231, gl_232, ga_232, gw_232, al_232, gz_232, gy_232, gx_232, gl_233, ga_233, gw_233, al_233, gz_233, gy_233, gx_233, gl_234, ga_234, gw_234, al_234, gz_234, gy_234, gx_234, gl_235, ga_235, gw_235, al_235, gz_235, gy_235, gx_235, gl_236, ga_236, gw_236, al_236, gz_236, gy_236, gx_236, gl_237, ga_237, gw_237, al_237, gz_237, gy_237, gx_237, gl_238, ga_238, gw_238, al_238, gz_238, gy_238, gx_238, gl_239, ga_239, gw_239, al_239, gz_239, gy_239, gx_239, gl_240, ga_240, gw_240, al_240, gz_240, gy_240, gx_240, gl_241, ga_241, gw_241, al_241, gz_241, gy_241, gx_241, gl_242, ga_242, gw_242, al_242, gz_242, gy_242, gx_242, gl_243, ga_243, gw_243, al_243, gz_243, gy_243, gx_243, gl_244, ga_244, gw_244, al_244, gz_244, gy_244, gx_244, gl_245, ga_245, gw_245, al_245, gz_245, gy_245, gx_245, gl_246, ga_246, gw_246, al_246, gz_246, gy_246, gx_246, gl_247, ga_247, gw_247, al_247, gz_247, gy_247, gx_247, gl_248, ga_248, gw_248, al_248, gz_248, gy_248, gx_248, gl_249, ga_249, gw_249, al_249, gz_249, gy_249, gx_249, gl_250, ga_250, gw_250, al_250, gz_250, gy_250, gx_250, gl_251, ga_251, gw_251, al_251, gz_251, gy_251, gx_251, gl_252, ga_252, gw_252, al_252, gz_252, gy_252, gx_252, gl_253, ga_253, gw_253, al_253, gz_253, gy_253, gx_253, gl_254, ga_254, gw_254, al_254, gz_254, gy_254, gx_254, gl_255, ga_255, gw_255, al_255, gz_255, gy_255, gx_255, gl_256, ga_256, gw_256, al_256, gz_256, gy_256, gx_256, gl_257, ga_257, gw_257, al_257, gz_257, gy_257, gx_257, mp_f, mp_pl, mp_p, mp_cm, mp_s, mp_o, mp_l, mp_w, mp_t, mp_cha, mp_bea, mp_hom, mp_kno, mp_law, mp_lat, mp_isc, mp_who, mp_whn, mp_isq, mp_so, mp_com, mp_lc, mp_lm, mp_lf, mp_lt, mp_wc, mp_wm, bitI]
    have es : knw v set (k + 1) = knw v set k ||| (if set.testBit k = true then kno v k else 0) := rfl
    rw [if_neg (by omega), ← ih, show (0 : Int32) = nI 0 from rfl, orN, orN, es]
    by_cases y : set.testBit k = true
    · rw [if_neg (fun z => z y), if_pos y]
    · rw [if_pos y, if_neg y]
theorem Mo_toldBy_s {v : eV} (hv : Va v) {m : eM} (h : Mp v m) (hs : Sk m) {D : Nat} (hD : 2 ≤ D) {set : Nat} (hset : set < 64) : Mo_toldBy D 208 (nI set) m = yI (nI (tolV v set)) m := by
  obtain ⟨d, rfl⟩ : ∃ d, D = d + 2 := ⟨D - 2, by omega⟩
  rw [Mo_toldBy_e _ _ _ _ kd_208]
  exact Mo_toldBy_4_s hv h hs d hset (nP v) 0 (by omega)
theorem P_le {v : eV} (hv : Va v) : 2 ^ nP v ≤ 64 := Nat.pow_le_pow_right (n := 2) (by decide) hv.p
theorem Mo_told_s {v : eV} (hv : Va v) {D : Nat} (hD : 3 ≤ D) {m : eM} (h : Mp v m) (x : Int32) : ∃ m', Fr sQ m m' ∧ Mo_told D 208 x m = yI (sp_told v x) m' := by
  obtain ⟨d, rfl⟩ : ∃ d, D = d + 3 := ⟨D - 3, by omega⟩
  have hnF := hv.f; have hnPl := hv.pl; have hnP := hv.p; have hnC := hv.cm; have hnS := hv.s; have hnO := hv.o; have hnL := hv.l; have hnW := hv.wt; have hW := W_le hv; have hW0 := @W_pos v; have htr := hv.tr
  have h0 := th0 h
  have hs0 := h0.sk
  have hP := P_le hv
  refine ⟨_, f0, ?_⟩
  have e1 : Mo_told (d + 3) 208 x m = if x < 0 then yI (-1) (sI m 208 0 0) else if nI (2 ^ nP v) ≤ x then yI (-1) (sI m 208 0 0) else bI (Mo_toldBy (d + 2) 208 x (sI m 208 0 0)) fun v4 m3 => yI v4 m3 := by
    rw [Mo_told_e _ _ _ _ kd_208]
    simp (disch := first | assumption | omega) only [mI_u, bR_s, l_2, l_3, l_4, l_5, l_6, l_7, l_8, l_9, l_10, l_12, l_15, l_16, l_18, l_20, l_21, l_22, l_24, l_25, l_26, l_27, l_28, l_29, l_30, l_32, l_36, l_40, l_41, l_42, l_43, l_45, l_48, l_56, l_57, l_59, l_60, l_61, l_62, l_63, l_64, l_97, l_99, l_100, l_122, l_126, l_127, l_168, l_180, l_255, l_300, l_359, l_360, l_400, l_1000, l_1200, l_1439, l_1440, l_1536, l_4096, rf_208_10, ga_210, n_cl, mp_p, shl1]
  rw [e1, inN_t]
  unfold sp_told
  by_cases z : inN x (2 ^ nP v) = true
  · rw [if_pos z, if_pos z]
    obtain ⟨k, hk, rfl⟩ := inN_of (by omega) z
    rw [Mo_toldBy_s hv h0 hs0 (by omega) (by omega), bI_y, n_cl (by omega)]
  · rw [if_neg z, if_neg z]
theorem few_b {g : Nat → Bool} {n N : Nat} (h : n ≤ N) : ∀ b, few g n = some b → b < N := fun b e => by have := (few_lt e).1; omega
theorem Mo_fewest_29_s {v : eV} (hv : Va v) {m : eM} (h : Mp v m) (hs : Sk m) (d : Nat) {f : Nat} (hf : f < 6) (w : Int32) : ∀ j n, n + j = 2 ^ nP v → Mo_fewest_29 (d + 3) 208 (nI f) w (oI (few (fun set => (tolV v set).testBit f) n)) (nI n) m = yI (sos (few (fun set => (tolV v set).testBit f) (2 ^ nP v)) w) m
  | 0, n, e => by
    have hnF := hv.f; have hnPl := hv.pl; have hnP := hv.p; have hnC := hv.cm; have hnS := hv.s; have hnO := hv.o; have hnL := hv.l; have hnW := hv.wt; have hW := W_le hv; have hW0 := @W_pos v; have htr := hv.tr
    have hP := P_le hv
    rw [Mo_fewest_29_e _ _ _ _ _ _ _ kd_208]
    simp (disch := first | assumption | omega) only [bR_s, bI_y, bL_y, bV_y, mI_u, mJ_u, mQ_u, lI_u, lL_u, toI, gI_sI, gI_sL, gL_sI, gL_sL, gR_sI, gR_sL, bb_0, bb_1, n_lt0, n_ge0, n_eq, n_le, n_lt, n_eq0, n_eq1, n_le0, n_cl, n_cl0, n_cl1, nI_1, nI_add, false_and, and_false, true_and, and_true, if_true, if_false, not_true, not_false_iff, Classical.not_not, eq_self, Bool.false_eq_true, not_lt_zero, Nat.reduceEqDiff, Nat.reduceAdd, Nat.reduceSub, Nat.reduceMul, Nat.reduceLeDiff, Nat.reduceLT, l_2, l_3, l_4, l_5, l_6, l_7, l_8, l_9, l_10, l_12, l_15, l_16, l_18, l_20, l_21, l_22, l_24, l_25, l_26, l_27, l_28, l_29, l_30, l_32, l_36, l_40, l_41, l_42, l_43, l_45, l_48, l_56, l_57, l_59, l_60, l_61, l_62, l_63, l_64, l_97, l_99, l_100, l_122, l_126, l_127, l_168, l_180, l_255, l_300, l_359, l_360, l_400, l_1000, l_1200, l_1439, l_1440, l_1536, l_4096, rf_208_2, rf_208_10, rf_208_11, rf_208_12, rf_208_13, rf_208_14, rf_208_15, rf_208_16, rf_208_17, rf_208_18, rf_208_19, rf_208_20, rf_208_21, rf_208_22, rf_208_24, rf_208_25, rf_208_26, rf_208_27, rf_208_28, rf_208_29, rf_208_30, rf_208_31, rf_208_32, rf_208_33, rf_208_34, rf_208_35, rf_208_36, rf_208_39, rf_208_45, rf_208_46, rf_208_47, rf_208_48, rf_208_49, rf_208_51, rf_208_52, rf_208_53, rf_208_54, rf_208_55, rf_208_56, rf_208_57, rf_208_58, rf_208_59, rf_208_60, rf_208_62, rf_208_63, rf_208_64, rf_208_65, rf_208_66, rf_208_67, gl_209, ga_209, gw_209, al_209, gz_209, gy_209, gx_209, gl_210, ga_210, gw_210, al_210, gz_210, gy_210, gx_210, gl_211, ga_211, gw_211, al_211, gz_211, gy_211, gx_211, gl_212, ga_212, gw_212, al_212, gz_212, gy_212, gx_212, gl_213, ga_213, gw_213, al_213, gz_213, gy_213, gx_213, gl_214, ga_214, gw_214, al_214, gz_214, gy_214, gx_214, gl_215, ga_215, gw_215, al_215, gz_215, gy_215, gx_215, gl_216, ga_216, gw_216, al_216, gz_216, gy_216, gx_216, gl_217, ga_217, gw_217, al_217, gz_217, gy_217, gx_217, gl_218, ga_218, gw_218, al_218, gz_218, gy_218, gx_218, gl_219, ga_219, gw_219, al_219, gz_219, gy_219, gx_219, gl_220, ga_220, gw_220, al_220, gz_220, gy_220, gx_220, gl_221, ga_221, gw_221, al_221, gz_221, gy_221, gx_221, gl_222, ga_222, gw_222, al_222, gz_222, gy_222, gx_222, gl_223, ga_223, gw_223, al_223, gz_223, gy_223, gx_223, gl_224, ga_224, gw_224, al_224, gz_224, gy_224, gx_224, gl_225, ga_225, gw_225, al_225, gz_225, gy_225, gx_225, gl_226, ga_226, gw_226, al_226, gz_226, gy_226, gx_226, gl_227, ga_227, gw_227, al_227, gz_227, gy_227, gx_227, gl_228, ga_228, gw_228, al_228, gz_228, gy_228, gx_228, gl_229, ga_229, gw_229, al_229, gz_229, gy_229, gx_229, gl_230, ga_230, gw_230, al_230, gz_230, gy_230, gx_230, gl_231, ga_231, gw_231, al_231, gz_231, gy_231, gx_231, gl_232, ga_232, gw_232, al_232, gz_232, gy_232, gx_232, gl_233, ga_233, gw_233, al_233, gz_233, gy_233, gx_233, gl_234, ga_234, gw_234, al_234, gz_234, gy_234, gx_234, gl_235, ga_235, gw_235, al_235, gz_235, gy_235, gx_235, gl_236, ga_236, gw_236, al_236, gz_236, gy_236, gx_236, gl_237, ga_237, gw_237, al_237, gz_237, gy_237, gx_237, gl_238, ga_238, gw_238, al_238, gz_238, gy_238, gx_238, gl_239, ga_239, gw_239, al_239, gz_239, gy_239, gx_239, gl_240, ga_240, gw_240, al_240, gz_240, gy_240, gx_240, gl_241, ga_241, gw_241, al_241, gz_241, gy_241, gx_241, gl_242, ga_242, gw_242, al_242, gz_242, gy_242, gx_242, gl_243, ga_243, gw_243, al_243, gz_243, gy_243, gx_243, gl_244, ga_244, gw_244, al_244, gz_244, gy_244, gx_244, gl_245, ga_245, gw_245, al_245, gz_245, gy_245, gx_245, gl_246, ga_246, gw_246, al_246, gz_246, gy_246, gx_246, gl_247, ga_247, gw_247, al_247, gz_247, gy_247, gx_247, gl_248, ga_248, gw_248, al_248, gz_248, gy_248, gx_248, gl_249, ga_249, gw_249, al_249, gz_249, gy_249, gx_249, gl_250, ga_250, gw_250, al_250, gz_250, gy_250, gx_250, gl_251, ga_251, gw_251, al_251, gz_251, gy_251, gx_251, gl_252, ga_252, gw_252, al_252, gz_252, gy_252, gx_252, gl_253, ga_253, gw_253, al_253, gz_253, gy_253, gx_253, gl_254, ga_254, gw_254, al_254, gz_254, gy_254, gx_254, gl_255, ga_255, gw_255, al_255, gz_255, gy_255, gx_255, gl_256, ga_256, gw_256, al_256, gz_256, gy_256, gx_256, gl_257, ga_257, gw_257, al_257, gz_257, gy_257, gx_257, mp_f, mp_pl, mp_p, mp_cm, mp_s, mp_o, mp_l, mp_w, mp_t, mp_cha, mp_bea, mp_hom, mp_kno, mp_law, mp_lat, mp_isc, mp_who, mp_whn, mp_isq, mp_so, mp_com, mp_lc, mp_lm, mp_lf, mp_lt, mp_wc, mp_wm, shl1]
    rw [if_pos (by omega), show 2 ^ nP v = n by omega]
    have hb := few_b (g := fun set => (tolV v set).testBit f) (n := n) (N := 4096) (by omega)
    revert hb
    cases few (fun set => (tolV v set).testBit f) n with
    | none => intro _; rfl
    | some b =>
      intro hb
      have := hb b rfl
      show (if 0 ≤ nI b then (if ¬ w = 0 then yI (nI b) m else bI (Mo_bits (d + 2) (nI b).toInt64 m) _) else _) = yI (if w = 0 then nI (pcN b) else nI b) m
      rw [if_pos (nI_pos' (by omega)), bitsI _ (by omega), bI_y]
      by_cases z : w = 0
      · rw [if_neg (fun q => q z), if_pos z]
      · rw [if_pos z, if_neg z]
  | j + 1, n, e => by
    have hnF := hv.f; have hnPl := hv.pl; have hnP := hv.p; have hnC := hv.cm; have hnS := hv.s; have hnO := hv.o; have hnL := hv.l; have hnW := hv.wt; have hW := W_le hv; have hW0 := @W_pos v; have htr := hv.tr
    have hP := P_le hv
    have ih := Mo_fewest_29_s hv h hs d hf w j (n + 1) (by omega)
    have ht := tolV_lt hv n
    have hb := few_b (g := fun set => (tolV v set).testBit f) (n := n) (N := 4096) (by omega)
    rw [Mo_fewest_29_e _ _ _ _ _ _ _ kd_208]
    simp (disch := first | assumption | omega) only [bR_s, l_2, l_3, l_4, l_5, l_6, l_7, l_8, l_9, l_10, l_12, l_15, l_16, l_18, l_20, l_21, l_22, l_24, l_25, l_26, l_27, l_28, l_29, l_30, l_32, l_36, l_40, l_41, l_42, l_43, l_45, l_48, l_56, l_57, l_59, l_60, l_61, l_62, l_63, l_64, l_97, l_99, l_100, l_122, l_126, l_127, l_168, l_180, l_255, l_300, l_359, l_360, l_400, l_1000, l_1200, l_1439, l_1440, l_1536, l_4096, rf_208_10, ga_210, n_cl, mp_p, shl1, n_le, Mo_toldBy_s hv h hs (show 2 ≤ d + 2 by omega) (show n < 64 by omega), bI_y, bitI, bb_1, nI_1]
    rw [if_neg (by omega), ← ih, few_s]
    by_cases z : (tolV v n).testBit f = true
    · rw [if_neg (fun q => q z), z, Bool.true_and]
      refine (pick_s (d + 2) (show n < 4096 by omega) hb m (fun m8 => Mo_fewest_29 (d + 2 + 1) 208 (nI f) w (nI n) (nI (n + 1)) m8) (fun m8 => Mo_fewest_29 (d + 2 + 1) 208 (nI f) w (oI (few (fun set => (tolV v set).testBit f) n)) (nI (n + 1)) m8)).trans ?_
      by_cases y : fwr n (few (fun set => (tolV v set).testBit f) n) = true
      · rw [if_pos y, if_pos y]; rfl
      · rw [if_neg y, if_neg y]
    · rw [if_pos z]
      rw [Bool.not_eq_true] at z
      rw [z, Bool.false_and, if_neg (by decide)]
theorem Mo_fewest_s {v : eV} (hv : Va v) {D : Nat} (hD : 3 ≤ D) {m : eM} (h : Mp v m) (f w : Int32) : ∃ m', Fr sQ m m' ∧ Mo_fewest D 208 f w m = yI (sp_fewest v f w) m' := by
  obtain ⟨d, rfl⟩ : ∃ d, D = d + 3 := ⟨D - 3, by omega⟩
  have hnF := hv.f; have hnPl := hv.pl; have hnP := hv.p; have hnC := hv.cm; have hnS := hv.s; have hnO := hv.o; have hnL := hv.l; have hnW := hv.wt; have hW := W_le hv; have hW0 := @W_pos v; have htr := hv.tr
  have h0 := th0 h
  refine ⟨_, f0, ?_⟩
  rw [Mo_fewest_e _ _ _ _ _ kd_208, mI_u, Mo_isFact_s h0 h0.sk, br0, Mo_within_1, br1]
  unfold sp_fewest
  by_cases z1 : inN f (nF v) = true
  · rw [if_pos z1, if_pos z1]
    by_cases z2 : inN w 2 = true
    · rw [if_pos z2, if_pos z2]
      obtain ⟨k, hk, rfl⟩ := inN_of (by omega) z1
      rw [n_cl (by omega)]
      exact Mo_fewest_29_s hv h0 h0.sk d (by omega) w (2 ^ nP v) 0 (by omega)
    · rw [if_neg z2, if_neg z2]
  · rw [if_neg z1, if_neg z1]
/-! the class -/
theorem LC_isWhat_s (d : Nat) (x : Int32) (m : eM) : LC_isWhat d x m = yI (bb (inN x 2)) m := by
  rw [LC_isWhat_e]
  by_cases z : inN x 2 = true
  · obtain ⟨k, hk, rfl⟩ := inN_of (by decide) z
    rw [z]
    rcases (by omega : k = 0 ∨ k = 1) with y | y <;> subst y <;> rfl
  · have n0 : x ≠ 0 := ne_of_inN (by decide) z 0 (by decide)
    have n1 : x ≠ 1 := ne_of_inN (by decide) z 1 (by decide)
    rw [if_neg n0, if_pos n1]
    rw [Bool.not_eq_true] at z
    rw [z]; rfl
theorem LC_isSet_s (d : Nat) (x : Int32) {k : Nat} (hk : k < 31) (m : eM) : LC_isSet d x (nI k) m = yI (bb (inN x (2 ^ k))) m := by
  rw [LC_isSet_e, shl1 k hk, inN_t, yI_if]
theorem Pa_factsTold_62_s {v : eV} (hv : Va v) {p : Nat} {m : eM} (h : Pp v p m) (hS : Ss m) (d : Nat) (x1 x2 x3 : Int32) {L : Int64} (hL : ∀ w, w < 64 → tb L w = true → w < 2 ^ nF v) : ∀ j f, f + j = nF v → Pa_factsTold_62 (d + 1) p x1 x2 x3 L (nI (tolN v L f)) (nI f) m = yI (nI (tolN v L (nF v))) m
  | 0, f, e => by
    have hnF := hv.f
    rw [Pa_factsTold_62_e _ _ _ _ _ _ _ _ _ h.kd, h.2.2.1.1, if_pos (by rw [n_le (by omega) (by omega)]; omega), show nF v = f by omega]
  | j + 1, f, e => by
    have hnF := hv.f
    have ih := Pa_factsTold_62_s hv h hS d x1 x2 x3 hL j (f + 1) (by omega)
    have es : tolN v L (f + 1) = tolN v L f ||| (if sur2 L (facM v f) = true then 2 ^ f else 0) := rfl
    have e3 : surN L (mk fun w => w.testBit f) = surN L (facM v f) := surN_c fun w hw z => by
      unfold facM
      rw [t_mk _ hw, t_mk _ hw, decide_eq_true (hL w hw z), Bool.true_and]
    rw [Pa_factsTold_62_e _ _ _ _ _ _ _ _ _ h.kd, h.2.2.1.1, if_neg (by rw [n_le (by omega) (by omega)]; omega), LC_factSo_s hS _ (by omega), bL_y, LC_sureness_s, bI_y, e3]
    simp only [sur2_1]
    rw [shl1 _ (by omega), orN, nI_1, ← ih, es]
    by_cases y : sur2 L (facM v f) = true
    · rw [if_neg (by rw [y]; decide), if_pos y]
    · rw [if_pos (by rwa [Bool.not_eq_true] at y), if_neg y, Nat.or_zero]
theorem Pa_factsTold_5_s {v : eV} (hv : Va v) {p : Nat} {m : eM} (h : Pp v p m) (hS : Ss m) (d : Nat) {set : Nat} (hset : set < 64) : ∀ j k, k + j = nP v → Pa_factsTold_5 (d + 3) p (nI set) (nI (tru v)) (nI (knw v set k)) (nI k) m = yI (nI (tolV v set)) m
  | 0, k, e => by
    have hnF := hv.f
    have hnP := hv.p
    have hW := W_le hv
    have htr := hv.tr
    have hk := knw_lt hv set k (by omega)
    rw [Pa_factsTold_5_e _ _ _ _ _ _ _ h.kd, h.2.2.1.2.2.1, if_pos (by rw [n_le (by omega) (by omega)]; omega), Pa_alike_s hv h hS (by omega) hk (by omega), bL_y, h.2.2.2.2.2.2.2.2]
    have eL : com v &&& (mk fun w => decide (w < 2 ^ nF v) && decide ((w ^^^ tru v) &&& knw v set k = 0)) = mk (likeV v (knw v set k) (tru v)) := t_ext fun w hw => by
      unfold likeV
      rw [t_and, t_mk _ hw, t_mk _ hw]
      cases tb (com v) w <;> simp
    rw [eL]
    unfold tolV
    rw [show nP v = k by omega]
    refine Pa_factsTold_62_s hv h hS (d + 2) _ _ _ (fun w hw z => ?_) (nF v) 0 (by omega)
    rw [t_mk _ hw] at z
    unfold likeV at z
    rw [Bool.and_eq_true] at z
    exact of_decide_eq_true z.1
  | j + 1, k, e => by
    have hnP := hv.p
    have ih := Pa_factsTold_5_s hv h hS d hset j (k + 1) (by omega)
    have es : knw v set (k + 1) = knw v set k ||| (if set.testBit k = true then kno v k else 0) := rfl
    rw [Pa_factsTold_5_e _ _ _ _ _ _ _ h.kd, h.2.2.1.2.2.1, if_neg (by rw [n_le (by omega) (by omega)]; omega), bitI (by omega) (by omega), Pa_known_s hv h (by omega) (by omega), bI_y, show (0 : Int32) = nI 0 from rfl, orN, orN, nI_1, ← ih, es]
    by_cases y : set.testBit k = true
    · rw [if_neg (by rw [bb_1]; exact fun z => z y), if_pos y]
    · rw [if_pos (by rw [bb_1]; exact y), if_neg y]
theorem Pa_factsTold_s {v : eV} (hv : Va v) {p : Nat} {m : eM} (h : Pp v p m) (hS : Ss m) {D : Nat} (hD : 3 ≤ D) {set : Nat} (hset : set < 64) : Pa_factsTold D p (nI set) (nI (tru v)) m = yI (nI (tolV v set)) m := by
  obtain ⟨d, rfl⟩ : ∃ d, D = d + 3 := ⟨D - 3, by omega⟩
  rw [Pa_factsTold_e _ _ _ _ _ h.kd]
  exact Pa_factsTold_5_s hv h hS d hset (nP v) 0 (by omega)
theorem LC_told_s {v : eV} (hv : Va v) {p : Nat} {m : eM} (h : Cn v p m) {D : Nat} (hD : 4 ≤ D) (x : Int32) : ∃ m', Fr sK m m' ∧ LC_told D 3 x m = yI (sp_told v x) m' := by
  obtain ⟨d, rfl⟩ : ∃ d, D = d + 4 := ⟨D - 4, by omega⟩
  have hs := h.sk
  have hnP := hv.p
  have hP := P_le hv
  refine ⟨m, Fr.rfl', ?_⟩
  rw [LC_told_e _ _ _ _ kd_3, rf_3_2 hs, bR_s, gd9, h.r0, bR_s, h.gp, Pa_people_s h.p, bI_y, LC_isSet_s _ x (show nP v < 31 by omega), br0, rf_3_2 hs, bR_s, gd9, h.r0, bR_s, bR_s, gd9, h.gp, h.tr]
  unfold sp_told
  by_cases z : inN x (2 ^ nP v) = true
  · rw [if_pos z, if_pos z]
    obtain ⟨k, hk, rfl⟩ := inN_of (by omega) z
    rw [Pa_factsTold_s hv h.p h.ss (by omega) (by omega), bI_y, n_cl (by omega)]
  · rw [if_neg z, if_neg z]
theorem LC_fewest_28_s {v : eV} (hv : Va v) {p : Nat} {m : eM} (h : Cn v p m) (d : Nat) {f : Nat} (hf : f < 6) (w : Int32) : ∀ j n, n + j = 2 ^ nP v → LC_fewest_28 (d + 4) 3 (nI f) w (oI (few (fun set => (tolV v set).testBit f) n)) (nI n) m = yI (sos (few (fun set => (tolV v set).testBit f) (2 ^ nP v)) w) m
  | 0, n, e => by
    have hs := h.sk
    have hnP := hv.p
    have hP := P_le hv
    rw [LC_fewest_28_e _ _ _ _ _ _ _ kd_3, rf_3_2 hs, bR_s, gd9, h.r0, bR_s, h.gp, Pa_people_s h.p, bI_y, shl1 _ (by omega), if_pos (by rw [n_le (by omega) (by omega)]; omega), LC_sizeOrSet_s (by omega) (few_b (by omega)), bI_y, show 2 ^ nP v = n by omega]
  | j + 1, n, e => by
    have hs := h.sk
    have hnP := hv.p
    have hP := P_le hv
    have ht := tolV_lt hv n
    have ih := LC_fewest_28_s hv h d hf w j (n + 1) (by omega)
    rw [LC_fewest_28_e _ _ _ _ _ _ _ kd_3, rf_3_2 hs, bR_s, gd9, h.r0, bR_s, h.gp, Pa_people_s h.p, bI_y, shl1 _ (by omega), if_neg (by rw [n_le (by omega) (by omega)]; omega), LC_isFewer_s (by omega) (by omega) (few_b (by omega)), br0, rf_3_2 hs, bR_s, gd9, h.r0, bR_s, bR_s, gd9, h.gp, h.tr, Pa_factsTold_s hv h.p h.ss (by omega) (by omega), bI_y, bitI (by omega) (by omega), nI_1, ← ih, few_s]
    by_cases y : fwr n (few (fun set => (tolV v set).testBit f) n) = true
    · rw [if_pos y, y, Bool.and_true]
      by_cases z : (tolV v n).testBit f = true
      · rw [if_neg (by rw [bb_1]; exact fun q => q z), if_pos z]; rfl
      · rw [if_pos (by rw [bb_1]; exact z), if_neg z]
    · rw [if_neg y]
      rw [Bool.not_eq_true] at y
      rw [y, Bool.and_false, if_neg (by decide)]
theorem LC_fewest_s {v : eV} (hv : Va v) {p : Nat} {m : eM} (h : Cn v p m) {D : Nat} (hD : 4 ≤ D) (f w : Int32) : ∃ m', Fr sK m m' ∧ LC_fewest D 3 f w m = yI (sp_fewest v f w) m' := by
  obtain ⟨d, rfl⟩ : ∃ d, D = d + 4 := ⟨D - 4, by omega⟩
  have hs := h.sk
  have hnF := hv.f
  refine ⟨m, Fr.rfl', ?_⟩
  rw [LC_fewest_e _ _ _ _ _ kd_3, rf_3_2 hs, bR_s, gd9, h.r0, bR_s, h.gp, Pa_isFact_s h.p, br0, LC_isWhat_s, br1]
  unfold sp_fewest
  by_cases z1 : inN f (nF v) = true
  · rw [if_pos z1, if_pos z1]
    by_cases z2 : inN w 2 = true
    · rw [if_pos z2, if_pos z2]
      obtain ⟨k, hk, rfl⟩ := inN_of (by omega) z1
      rw [n_cl (by omega)]
      exact LC_fewest_28_s hv h d (by omega) w (2 ^ nP v) 0 (by omega)
    · rw [if_neg z2, if_neg z2]
  · rw [if_neg z1, if_neg z1]
