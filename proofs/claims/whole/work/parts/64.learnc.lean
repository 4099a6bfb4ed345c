/-! ===== LEARNS: the class ===== -/
theorem v30_pp {v : eV} {p : Nat} {m : eM} (h : Pp v p m) (q mn : Nat) (S : Int64) : Pp (v30 v q mn S) p m := by
  have en : nam (v30 v q mn S) = nam v := funext fun _ => v30_a v q mn S (by decide)
  unfold Pp at h ⊢
  rw [v30_cha, v30_bea, v30_hom, v30_kno, v30_law, v30_lat, v30_isc, en]
  exact h
theorem Pa_factIs_l {v : eV} (hv : Va v) {p : Nat} {m : eM} (h : Pp v p m) (hS : Ss m) {D : Nat} (hD : 1 ≤ D) {f : Nat} (hf : f < 6) (so : Int32) : Pa_factIs D p (nI f) so m = yL (lnS v f so) m := by
  unfold lnS
  by_cases z : so = 0
  · subst z
    exact Pa_factIs_s hv h hS hD hf false
  · rw [decide_eq_false z]
    have h1 := Pa_factIs_s hv h hS hD hf true
    obtain ⟨d, rfl⟩ : ∃ d, D = d + 1 := ⟨D - 1, by omega⟩
    rw [Pa_factIs_e _ _ _ _ _ h.kd, Pa_allWorlds_s hv h, bL_y, if_neg (show ¬ bb true = 0 by decide)] at h1
    rw [Pa_factIs_e _ _ _ _ _ h.kd, Pa_allWorlds_s hv h, bL_y, if_neg z]
    exact h1
theorem Tk_lastMinute_s {v : eV} {t n : Nat} {g : Nat → Nat} {m : eM} (h : TkP v t n g m) {D : Nat} (hD : 2 ≤ D) : Tk_lastMinute D t m = yI (nI (if n = 0 then 0 else whn v (g (n - 1)))) m := by
  obtain ⟨d, rfl⟩ : ∃ d, D = d + 2 := ⟨D - 2, by omega⟩
  have hn := h.2.2.2.1
  rw [Tk_lastMinute_e _ _ _ h.kd, h.2.2.1]
  by_cases z : n = 0
  · subst z
    rw [if_pos rfl, Tk_minute_e _ _ _ _ h.kd, Tk_isIn_s h, br0, if_neg (show ¬ inN (nI 0 - 1) 0 = true by decide)]
    rfl
  · rw [if_neg z, n_s1 (by omega), Tk_minute_s h (by omega) (by omega), bI_y]
theorem ent_v30 {v : eV} {t i : Nat} {m : eM} (h : ent v t i i m) (hi : i < 30) (q mn : Nat) (S : Int64) : ent (v30 v q mn S) t i i m := by
  have ew : who (v30 v q mn S) i = who v i := v30_j v q mn S (by omega)
  have en : whn (v30 v q mn S) i = whn v i := v30_j v q mn S (by omega)
  have es : soV (v30 v q mn S) i = soV v i := v30_L v q mn S (by omega)
  have eli : ∀ l, lieM (v30 v q mn S) i l = lieM v i l := fun l => by
    unfold lieM
    rw [show lieV (v30 v q mn S) i = lieV v i from v30_lieV q mn S (by omega)]
    rfl
  unfold ent at h ⊢
  rw [ew, en, es, eli, eli]
  exact h
theorem LC_tell_s {v : eV} (hv : Va v) {p : Nat} {m : eM} (h : Cn v p m) {D : Nat} (hD : 3 ≤ D) {q mn f : Nat} (so : Int32) (hq : q < nP v) (hmn : mn < 1440) (hT : TkP v 49 (nS v) (fun i => i) m) : ∃ m', Fr (sTt 49) m m' ∧ LC_tell D 3 49 (nI q) (nI mn) (lnS v f so) m = yV m' ∧ TkP (lnV v q f so mn) 49 (nS v + 1) (r30 v) m' := by
  obtain ⟨d, rfl⟩ : ∃ d, D = d + 3 := ⟨D - 3, by omega⟩
  have hs := h.sk
  have hS := hv.s
  have f1 : Fr (sTt 49) m (sI m 49 5 (nI (nS v + 1))) := Fr.rfl'.i (decide_eq_true (by omega))
  have f1' : Fr (fun a k => decide (a = 49 ∧ k = 5)) m (sI m 49 5 (nI (nS v + 1))) := Fr.rfl'.i (decide_eq_true (by omega))
  have z1 : TkZ 49 (nS v + 1) (sI m 49 5 (nI (nS v + 1))) := ⟨hT.1, hT.2.1, gI_w _ _ _ _, by omega⟩
  have e0 : lieM (lnV v q f so mn) 30 0 = lieG v (lnS v f so) 0 q := v30_lieM v q mn _ 0
  have e1 : lieM (lnV v q f so mn) 30 1 = lieG v (lnS v f so) 1 q := v30_lieM v q mn _ 1
  have we : ent (lnV v q f so mn) 49 (nS v) 30 (wrT 49 (nS v) (nI q) (nI mn) (lnS v f so) (lieM (lnV v q f so mn) 30 0) (lieM (lnV v q f so mn) 30 1) (sI m 49 5 (nI (nS v + 1)))) := wrT_e (v := lnV v q f so mn) (t := 49) (i := nS v) (x := 30) _ hq hmn
  have wf := wrT_f 49 (nS v) (nI q) (nI mn) (lnS v f so) (lieM (lnV v q f so mn) 30 0) (lieM (lnV v q f so mn) 30 1) (sI m 49 5 (nI (nS v + 1)))
  have z2 : TkZ 49 (nS v + 1) (wrT 49 (nS v) (nI q) (nI mn) (lnS v f so) (lieM (lnV v q f so mn) 30 0) (lieM (lnV v q f so mn) 30 1) (sI m 49 5 (nI (nS v + 1)))) := z1.fr wf (sTi_n (by omega))
  refine ⟨_, f1.tr (sTi_t wf), ?_, z2.P fun i hi => ?_⟩
  · have l0 := Pa_lies_s hv h.p h.ss (show 2 ≤ d + 2 by omega) (lnS v f so) hq (show 0 < 2 by decide)
    have l1 := Pa_lies_s hv h.p h.ss (show 2 ≤ d + 2 by omega) (lnS v f so) hq (show 1 < 2 by decide)
    have l0 : Pa_lies (d + 2) p (lnS v f so) (0 : Int32) (nI q) m = _ := l0
    have l1 : Pa_lies (d + 2) p (lnS v f so) (1 : Int32) (nI q) m = _ := l1
    have em : iMin (nI (nS v + 1)) 31 = nI (nS v + 1) := by
      refine (iMin_n (b := 31) (by omega) (by decide)).trans ?_
      rw [show min (nS v + 1) 31 = nS v + 1 by omega]
    rw [LC_tell_e _ _ _ _ _ _ _ kd_3 hT.kd, rf_3_2 hs, bR_s, gd9, h.r0, bR_s, h.gp, l0, bL_y, l1, bL_y, Tk_add_e _ _ _ _ _ _ _ _ hT.kd, hT.2.2.1, nI_1, em, mI_u, gI_w, nI_pred, Tk_set_s z1 (by omega) (by omega), bV_y, bV_y, e0, e1]
  · by_cases z : i = nS v
    · rw [show r30 v i = 30 from if_pos z, z]
      exact we
    · rw [show r30 v i = i from if_neg z]
      refine ((ent_v30 (hT.e (show i < nS v by omega)) (by omega) q mn (lnS v f so)).fr f1' ?_).fr wf ?_
      · exact fun a q1 q2 => decide_eq_false (by omega)
      · exact fun a q1 q2 => sTi_n (by omega)
