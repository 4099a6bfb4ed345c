/-! ===== LEARNS: the reference, whole ===== -/
theorem Rw.f249 {v : eV} {r : Nat → Nat} {n : Nat} {m m' : eM} (hr : Rw v r n m) (f1 : Fr (fun a _ => decide (a = 249)) m m') : Rw v r n m' := by
  obtain ⟨a1, a2, a3⟩ := hr
  refine ⟨(f1.1 _ _ (by decide)).trans a1, a2, fun i hi => ?_⟩
  obtain ⟨b1, ⟨c1, c2, c3, c4, c5, c6⟩, b3, b4⟩ := a3 i hi
  exact ⟨(f1.1 _ _ rfl).trans b1, ⟨c1, (f1.1 _ _ rfl).trans c2, (f1.1 _ _ rfl).trans c3, (f1.1 _ _ rfl).trans c4, (f1.2.1 _ _ rfl).trans c5, c6⟩, (f1.2.1 _ _ rfl).trans b3, (f1.2.1 _ _ rfl).trans b4⟩
theorem f249_q {m m' : eM} (f : Fr (fun a _ => decide (a = 249)) m m') : Fr sQ m m' := f.up fun a j h => by
  apply decide_eq_false
  intro z
  subst z
  revert h
  exact fun q => by cases q
def lnOK (v : eV) (p f mn c : Int32) : Bool := inN p (nP v) && (inN f (nF v) && (inN mn 1440 && (thr v c && (decide (mn.toNatClampNeg + lat v c.toNatClampNeg < 1440) && (decide (nS v = 0) || decide (whn v (nS v - 1) ≤ mn.toNatClampNeg))))))
def lnR (v : eV) (p f : Nat) (so : Int32) (mn c : Nat) : Int32 := if lnW v p = 0 then -1 else bb (okL (lnW v p) f (fun w => beN (lnV v p f so mn) (ptN (lnV v p f so mn) (r30 v) c (mn + lat v c) w (nS v + 1))) (2 ^ nF v))
def sp_learns (v : eV) (p f so mn c : Int32) : Int32 := if lnOK v p f mn c = true then lnR v p.toNatClampNeg f.toNatClampNeg so mn.toNatClampNeg c.toNatClampNeg else -1
theorem Mo_learns_166_s {v : eV} (hv : Va v) {m : eM} (h : Mp v m) (hr : Rw v (fun i => i) (nS v) m) (d : Nat) {p f mn c : Nat} (so : Int32) (hp : p < nP v) (hf : f < nF v) (hmn : mn < 1440) (hc : c < 2) (hm : mn + lat v c < 1440) (h7 : gI m 237 30 = nI p) (h8 : gI m 238 30 = nI mn) (h0 : gI m 240 30 = 0) (y6 : Int64) : ∃ m', Fr sQ m m' ∧ Mo_learns_166 (d + 4) 208 (nI p) (nI f) so (nI mn) (nI c) y6 239 30 (lnS v f so) m = yI (bb (okL y6 f (fun w => beN (lnV v p f so mn) (ptN (lnV v p f so mn) (r30 v) c (mn + lat v c) w (nS v + 1))) (2 ^ nF v))) m' := by
  have hS := hv.s
  have hv' : Va (lnV v p f so mn) := v30_va hv p mn _
  have f3 : Fr sQ m (sL m 239 30 (lnS v f so)) := Fr.rfl'.l rfl
  have h3 := h.q f3
  have hs3 := h3.sk
  have e50 : gI (sL m 239 30 (lnS v f so)) 208 50 = nI (nS v) := hr.1
  have f5 : Fr sQ m (sI (sI (sL m 239 30 (lnS v f so)) 241 (nS v) 30) 208 50 (nI (nS v + 1))) := (f3.i rfl).i rfl
  have h5 := h.q f5
  have hs5 := h5.sk
  have h5' : Mp (lnV v p f so mn) (sI (sI (sL m 239 30 (lnS v f so)) 241 (nS v) 30) 208 50 (nI (nS v + 1))) := v30_mp h5 p mn _
  have sx : Sx (lnV v p f so mn) 30 (sI (sI (sL m 239 30 (lnS v f so)) 241 (nS v) 30) 208 50 (nI (nS v + 1))) := by
    refine ⟨by decide, ?_, ?_, ?_, ?_, hp, hmn, Nat.zero_le 1⟩
    · rw [gI_sI, if_neg (by decide), gI_sI, if_neg (fun q => absurd q.1 (by decide))]; exact h7
    · rw [gI_sI, if_neg (by decide), gI_sI, if_neg (fun q => absurd q.1 (by decide))]; exact h8
    · rw [gI_sI, if_neg (by decide), gI_sI, if_neg (fun q => absurd q.1 (by decide))]; exact h0
    · exact gL_w _ _ _ _
  have el : Mo_liesOf (d + 3) 208 (30 : Int32) (sI (sI (sL m 239 30 (lnS v f so)) 241 (nS v) 30) 208 50 (nI (nS v + 1))) = _ := Mo_liesOf_s hv' h5' (show 3 ≤ d + 3 by omega) sx
  have f6 : Fr sQ m (sL (sL (sI (sI (sL m 239 30 (lnS v f so)) 241 (nS v) 30) 208 50 (nI (nS v + 1))) 242 30 (lieM (lnV v p f so mn) 30 0)) 242 (31 + 30) (lieM (lnV v p f so mn) 30 1)) := (f5.l rfl).l rfl
  have h6 := h.q f6
  have r6 : Rw (lnV v p f so mn) (r30 v) (nS v + 1) (sL (sL (sI (sI (sL m 239 30 (lnS v f so)) 241 (nS v) 30) 208 50 (nI (nS v + 1))) 242 30 (lieM (lnV v p f so mn) 30 0)) 242 (31 + 30) (lieM (lnV v p f so mn) 30 1)) := by
    obtain ⟨a1, a2, a3⟩ := hr
    refine ⟨(show gI (sI (sI (sL m 239 30 (lnS v f so)) 241 (nS v) 30) 208 50 (nI (nS v + 1))) 208 50 = nI (nS v + 1) from gI_w _ _ _ _), by omega, fun i hi => ?_⟩
    by_cases z : i = nS v
    · have er : r30 v i = 30 := if_pos z
      rw [er]
      refine ⟨?_, (sx.sl _ _).sl _ _, ?_, gL_w _ _ _ _⟩
      · subst z
        show gI (sI (sI (sL m 239 30 (lnS v f so)) 241 (nS v) 30) 208 50 (nI (nS v + 1))) 241 (nS v) = _
        rw [gI_sI, if_neg (fun q => absurd q.1 (by decide)), gI_w]; rfl
      · rw [gL_sL, if_neg (by decide), gL_w]
    · have er : r30 v i = i := if_neg z
      have hi' : i < nS v := by omega
      rw [er]
      obtain ⟨b1, ⟨c1, c2, c3, c4, c5, c6, c7, c8⟩, b3, b4⟩ := a3 i hi'
      have ew : who (lnV v p f so mn) i = who v i := v30_j v p mn _ (by omega)
      have en : whn (lnV v p f so mn) i = whn v i := v30_j v p mn _ (by omega)
      have ei : isq (lnV v p f so mn) i = isq v i := v30_j v p mn _ (by omega)
      have es : soV (lnV v p f so mn) i = soV v i := v30_L v p mn _ (by omega)
      have eli : ∀ l, lieM (lnV v p f so mn) i l = lieM v i l := fun l => by
        unfold lieM
        rw [show lieV (lnV v p f so mn) i = lieV v i from v30_lieV p mn _ (by omega)]
        rfl
      refine ⟨?_, ⟨c1, ?_, ?_, ?_, ?_, ?_, ?_, ?_⟩, ?_, ?_⟩
      · show gI (sI (sI (sL m 239 30 (lnS v f so)) 241 (nS v) 30) 208 50 (nI (nS v + 1))) 241 i = _
        rw [gI_sI, if_neg (fun q => absurd q.1 (by decide)), gI_sI, if_neg (fun q => z q.2)]; exact b1
      · rw [ew]
        show gI (sI (sI (sL m 239 30 (lnS v f so)) 241 (nS v) 30) 208 50 (nI (nS v + 1))) 237 i = _
        rw [gI_sI, if_neg (fun q => absurd q.1 (by decide)), gI_sI, if_neg (fun q => absurd q.1 (by decide))]; exact c2
      · rw [en]
        show gI (sI (sI (sL m 239 30 (lnS v f so)) 241 (nS v) 30) 208 50 (nI (nS v + 1))) 238 i = _
        rw [gI_sI, if_neg (fun q => absurd q.1 (by decide)), gI_sI, if_neg (fun q => absurd q.1 (by decide))]; exact c3
      · rw [ei]
        show gI (sI (sI (sL m 239 30 (lnS v f so)) 241 (nS v) 30) 208 50 (nI (nS v + 1))) 240 i = _
        rw [gI_sI, if_neg (fun q => absurd q.1 (by decide)), gI_sI, if_neg (fun q => absurd q.1 (by decide))]; exact c4
      · rw [es, gL_sL, if_neg (fun q => absurd q.1 (by decide)), gL_sL, if_neg (fun q => absurd q.1 (by decide))]
        show gL (sL m 239 30 (lnS v f so)) 239 i = _
        rw [gL_sL, if_neg (fun q => by omega)]; exact c5
      · rw [ew]; exact c6
      · rw [en]; exact c7
      · rw [ei]; exact c8
      · rw [eli, gL_sL, if_neg (fun q => by omega), gL_sL, if_neg (fun q => by omega)]
        show gL (sL m 239 30 (lnS v f so)) 242 i = _
        rw [gL_sL, if_neg (fun q => absurd q.1 (by decide))]; exact b3
      · rw [eli, gL_sL, if_neg (fun q => by omega), gL_sL, if_neg (fun q => by omega)]
        show gL (sL m 239 30 (lnS v f so)) 242 (31 + i) = _
        rw [gL_sL, if_neg (fun q => absurd q.1 (by decide))]; exact b4
  obtain ⟨m7, f7, e7, z7⟩ := Mo_learns_197_s (v := v) (d + 3) (nI p) (nI f) so (nI mn) (nI c) y6 360 0 _ h6.sk (fun b hb => absurd hb (Nat.not_lt_zero b)) (by omega)
  have h7' : Mp (lnV v p f so mn) m7 := v30_mp (h6.q (f249_q f7)) p mn _
  have elat : lat (lnV v p f so mn) c = lat v c := v30_a v p mn _ (by decide)
  obtain ⟨m8, f8, e8⟩ := Mo_learns_225_s hv' (d + 1) (nI p) so (f := f) (mn := mn) hf hc (by rw [elat]; exact hm) y6 (2 ^ nF v) 0 eU m7 h7' (r6.f249 f7) (fun b hb => z7 b hb) (by rw [Nat.zero_add]; rfl)
  rw [elat] at e8
  have e8 : Mo_learns_225 (d + 4) 208 (nI p) (nI f) so (nI mn) (nI c) y6 (1 : Int32) (0 : Int32) eU m7 = _ := e8
  have e7 : Mo_learns_197 (d + 4) 208 (nI p) (nI f) so (nI mn) (nI c) y6 (0 : Int32) _ = _ := e7
  refine ⟨m8, f6.tr ((f249_q f7).tr (f249_q f8)), ?_⟩
  rw [Mo_learns_166_e _ _ _ _ _ _ _ _ _ _ _ _ kd_208, show (30 : Int32) = nI 30 from rfl, gw_239 (by decide), ← show (30 : Int32) = nI 30 from rfl, mJ_u, show (30 : Int32).toNatClampNeg = 30 from rfl, rf_208_49 hs3, bR_s, e50, gw_241 (by omega), mI_u, n_cl (by omega), mI_u]
  have e50' : gI (sI (sL m 239 30 (lnS v f so)) 241 (nS v) 30) 208 50 = nI (nS v) := by
    rw [gI_sI, if_neg (fun q => absurd q.1 (by decide))]; exact e50
  rw [e50', nI_1, el, bV_y, e7, e8]
  rfl
theorem Mo_learns_79_s {v : eV} (hv : Va v) {m : eM} (h : Mp v m) (d : Nat) {p f mn c : Nat} (so : Int32) (hp : p < nP v) (hf : f < nF v) (hmn : mn < 1440) (hc : c < 2) (hm : mn + lat v c < 1440) : ∃ m', Fr sQ m m' ∧ Mo_learns_79 (d + 6) 208 (nI p) (nI f) so (nI mn) (nI c) m = yI (lnR v p f so mn c) m' := by
  have htr := hv.tr
  have hP := hv.p
  have hF := hv.f
  have hW := W_64 hv
  have hkn := hv.kn hp
  obtain ⟨m1, f1, e1, r1, -⟩ := Mo_canBe_s hv (show 5 ≤ d + 5 by omega) h
  have h1 := h.q f1
  have hs1 := h1.sk
  rw [Mo_learns_79_e _ _ _ _ _ _ _ _ kd_208, e1, bL_y, rf_208_15 hs1, bR_s, ga_215 (by omega), n_cl (by omega), mp_kno h1 (by omega), mp_t h1, Mo_likeFor_s hv h1 hs1 (by omega) (by omega) (by omega), bL_y]
  unfold lnR
  have eW : (canV v &&& mk (likeV v (kno v p) (tru v))) = lnW v p := rfl
  rw [eW]
  by_cases z : lnW v p = 0
  · rw [if_neg (fun q => q ((cmp0 _ _).mpr z)), if_pos z]
    exact ⟨m1, f1, rfl⟩
  · rw [if_pos (fun q => z ((cmp0 _ _).mp q)), if_neg z]
    have f2 : Fr sQ m1 (sI (sI (sI m1 237 30 (nI p)) 238 30 (nI mn)) 240 30 0) := ((Fr.rfl'.i rfl).i rfl).i rfl
    have h2 := h1.q f2
    have hs2 := h2.sk
    have g7 : gI (sI (sI (sI m1 237 30 (nI p)) 238 30 (nI mn)) 240 30 0) 237 30 = nI p := by
      rw [gI_sI, if_neg (by decide), gI_sI, if_neg (by decide), gI_w]
    have g8 : gI (sI (sI (sI m1 237 30 (nI p)) 238 30 (nI mn)) 240 30 0) 238 30 = nI mn := by
      rw [gI_sI, if_neg (by decide), gI_w]
    have g0 : gI (sI (sI (sI m1 237 30 (nI p)) 238 30 (nI mn)) 240 30 0) 240 30 = 0 := gI_w _ _ _ _
    have r2 : Rw v (fun i => i) (nS v) (sI (sI (sI m1 237 30 (nI p)) 238 30 (nI mn)) 240 30 0) := by
      obtain ⟨a1, a2, a3⟩ := r1
      have hS := hv.s
      refine ⟨a1, a2, fun i hi => ?_⟩
      obtain ⟨b1, ⟨c1, c2, c3, c4, c5, c6⟩, b3, b4⟩ := a3 i hi
      have n30 : ¬ i = 30 := by omega
      refine ⟨?_, ⟨c1, ?_, ?_, ?_, c5, c6⟩, b3, b4⟩
      · rw [gI_sI, if_neg (fun q => absurd q.1 (by decide)), gI_sI, if_neg (fun q => absurd q.1 (by decide)), gI_sI, if_neg (fun q => absurd q.1 (by decide))]; exact b1
      · rw [gI_sI, if_neg (fun q => n30 q.2), gI_sI, if_neg (fun q => n30 q.2), gI_sI, if_neg (fun q => n30 q.2)]; exact c2
      · rw [gI_sI, if_neg (fun q => n30 q.2), gI_sI, if_neg (fun q => n30 q.2), gI_sI, if_neg (fun q => n30 q.2)]; exact c3
      · rw [gI_sI, if_neg (fun q => n30 q.2), gI_sI, if_neg (fun q => n30 q.2), gI_sI, if_neg (fun q => n30 q.2)]; exact c4
    obtain ⟨m3, f3, e3⟩ := Mo_learns_166_s hv h2 r2 (d + 2) so hp hf hmn hc hm g7 g8 g0 (lnW v p)
    refine ⟨m3, f1.tr (f2.tr f3), ?_⟩
    have key : ∀ S, S = lnS v f so → Mo_learns_166 (d + 6) 208 (nI p) (nI f) so (nI mn) (nI c) (lnW v p) 239 30 S (sI (sI (sI m1 237 30 (nI p)) 238 30 (nI mn)) 240 30 0) = Mo_learns_166 (d + 6) 208 (nI p) (nI f) so (nI mn) (nI c) (lnW v p) 239 30 (lnS v f so) (sI (sI (sI m1 237 30 (nI p)) 238 30 (nI mn)) 240 30 0) := fun S hS => by
      rw [hS]
    rw [rf_208_45 hs1, bR_s, show (30 : Int32) = nI 30 from rfl, gw_237 (by decide), mI_u, n_cl (by decide), rf_208_46 (hs1.i _ _ _), bR_s, gw_238 (by decide), mI_u, rf_208_48 ((hs1.i _ _ _).i _ _ _), bR_s, gw_240 (by decide), mI_u, show (0 : Int32) &&& 1 = 0 from rfl, ← show (30 : Int32) = nI 30 from rfl, rf_208_47 hs2, bR_s]
    by_cases y : so = 0
    · rw [if_pos y, Mo_allWorlds_s hv h2, bL_y, Mo_factSet_s hv h2 hs2 _ (by omega), bL_y]
      refine (key _ ?_).trans e3
      unfold facM lnS allM
      refine t_ext fun w hw => ?_
      rw [t_and, t_not hw, t_mk _ hw, t_mk _ hw, t_mk _ hw, decide_eq_true y]
      cases w.testBit f <;> cases decide (w < 2 ^ nF v) <;> rfl
    · rw [if_neg y, Mo_factSet_s hv h2 hs2 _ (by omega), bL_y]
      refine (key _ ?_).trans e3
      unfold facM lnS
      refine t_ext fun w hw => ?_
      rw [t_mk _ hw, t_mk _ hw, decide_eq_false y]
      cases w.testBit f <;> cases decide (w < 2 ^ nF v) <;> rfl
theorem Mo_learns_s {v : eV} (hv : Va v) {D : Nat} (hD : 7 ≤ D) {m : eM} (h : Mp v m) (p f so mn c : Int32) : ∃ m', Fr sQ m m' ∧ Mo_learns D 208 p f so mn c m = yI (sp_learns v p f so mn c) m' := by
  obtain ⟨d, rfl⟩ : ∃ d, D = d + 7 := ⟨D - 7, by omega⟩
  have h0 := th0 h
  have hs0 := h0.sk
  have hS := hv.s
  have hP := hv.p
  have hF := hv.f
  rw [Mo_learns_e _ _ _ _ _ _ _ _ kd_208, mI_u, Mo_isPerson_s h0 hs0, br0, Mo_isFact_s h0 hs0, br0, Mo_isMinute_s, br0, Mo_isThere_s hv h0 hs0, br0]
  unfold sp_learns lnOK
  by_cases z1 : inN p (nP v) = true
  · by_cases z2 : inN f (nF v) = true
    · by_cases z3 : inN mn 1440 = true
      · by_cases z4 : thr v c = true
        · rw [if_pos z1, if_pos z2, if_pos z3, if_pos z4, z1, z2, z3, z4, Bool.true_and, Bool.true_and, Bool.true_and, Bool.true_and]
          obtain ⟨p', hp', rfl⟩ := inN_of (by omega) z1
          obtain ⟨f', hf', rfl⟩ := inN_of (by omega) z2
          obtain ⟨mn', hm', rfl⟩ := inN_of (by omega) z3
          obtain ⟨c', hc', rfl, -⟩ := thr_of z4
          have hl := hv.lt hc'
          rw [rf_208_17 hs0, bR_s, ga_217 (by omega), n_cl (n := c') (by omega), n_cl (n := p') (by omega), n_cl (n := f') (by omega), n_cl (n := mn') (by omega), mp_lat h0 hc', nI_add, l_1439]
          by_cases z5 : mn' + lat v c' < 1440
          · rw [if_neg (by rw [n_lt (by omega) (by omega)]; omega), decide_eq_true z5, Bool.true_and, mp_s h0]
            by_cases z6 : nS v = 0
            · rw [if_pos (show nI (nS v) ≤ 0 by rw [z6]; decide), decide_eq_true z6, Bool.true_or, if_pos rfl]
              obtain ⟨m1, f1, e1⟩ := Mo_learns_79_s hv h0 (d + 1) so hp' hf' hm' hc' z5
              exact ⟨m1, f0.tr f1, e1⟩
            · have hwn := hv.wn (j := nS v - 1) (Or.inl (by omega))
              rw [if_neg (show ¬ nI (nS v) ≤ 0 from fun q => z6 (by rw [show (0 : Int32) = nI 0 from rfl, n_le (by omega) (by omega)] at q; omega)), decide_eq_false z6, Bool.false_or, rf_208_46 hs0, bR_s, n_s1 (by omega), ga_238 (by omega), n_cl (by omega), mp_whn h0 (by omega)]
              by_cases z7 : whn v (nS v - 1) ≤ mn'
              · rw [if_pos (by rw [n_le (by omega) (by omega)]; exact z7), if_pos (decide_eq_true z7)]
                obtain ⟨m1, f1, e1⟩ := Mo_learns_79_s hv h0 (d + 1) so hp' hf' hm' hc' z5
                exact ⟨m1, f0.tr f1, e1⟩
              · rw [if_neg (by rw [n_le (by omega) (by omega)]; exact z7), if_neg (by rw [decide_eq_false z7]; decide)]
                exact ⟨_, f0, rfl⟩
          · rw [if_pos (by rw [n_lt (by omega) (by omega)]; omega), decide_eq_false z5, Bool.false_and, if_neg (by decide)]
            exact ⟨_, f0, rfl⟩
        · rw [if_pos z1, if_pos z2, if_pos z3, if_neg z4, if_neg (by rw [Bool.not_eq_true] at z4; rw [z4]; simp)]
          exact ⟨_, f0, rfl⟩
      · rw [if_pos z1, if_pos z2, if_neg z3, if_neg (by rw [Bool.not_eq_true] at z3; rw [z3]; simp)]
        exact ⟨_, f0, rfl⟩
    · rw [if_pos z1, if_neg z2, if_neg (by rw [Bool.not_eq_true] at z2; rw [z2]; simp)]
      exact ⟨_, f0, rfl⟩
  · rw [if_neg z1, if_neg (by rw [Bool.not_eq_true] at z1; rw [z1]; simp)]
    exact ⟨_, f0, rfl⟩
