/-! ===== say and offer: the class ===== -/
def okSp (v : eV) (x y : Int32) : Bool := inN x (nP v) && inN y 1440
def okSay (v : eV) (x y : Int32) : Bool := okSp v x y && (decide (nS v < 24) && (decide (nS v = 0) || decide (whn v (nS v - 1) ≤ y.toNatClampNeg)))
def okOff (v : eV) (x y : Int32) : Bool := okSp v x y && decide (nO v < 6)
def lyA (o : Sum Nat (Nat × Int64)) : Int32 := match o with
  | .inl e => nI e
  | .inr _ => 0
def lyN (v : eV) (k x p mn n : Nat) (o : Sum Nat (Nat × Int64)) : eV := match o with
  | .inl _ => v
  | .inr r => vHr v k x p mn r.1 r.2 n
def sp_say (s : eTp) (v : eV) (x y : Int32) : Int32 := if okSay v x y = true then lyA (lyV s v) else -1
def nx_say (s : eTp) (v : eV) (x y : Int32) : eV := if okSay v x y = true then lyN v 4 (nS v) x.toNatClampNeg y.toNatClampNeg (nS v + 1) (lyV s v) else v
def sp_offer (s : eTp) (v : eV) (x y : Int32) : Int32 := if okOff v x y = true then lyA (lyV s v) else -1
def nx_offer (s : eTp) (v : eV) (x y : Int32) : eV := if okOff v x y = true then lyN v 5 (24 + nO v) x.toNatClampNeg y.toNatClampNeg (nO v + 1) (lyV s v) else v
theorem okSp_of {v : eV} (hv : Va v) {x y : Int32} (h : okSp v x y = true) : ∃ p mn, x = nI p ∧ y = nI mn ∧ p < nP v ∧ mn < 1440 ∧ x.toNatClampNeg = p ∧ y.toNatClampNeg = mn := by
  have hp := hv.p
  unfold okSp at h
  rw [Bool.and_eq_true] at h
  obtain ⟨p, hp', rfl⟩ := inN_of (by omega) h.1
  obtain ⟨mn, hm, rfl⟩ := inN_of (by decide) h.2
  exact ⟨p, mn, rfl, rfl, hp', hm, n_cl (by omega), n_cl (by omega)⟩
theorem okSay_of {v : eV} (hv : Va v) {x y : Int32} (h : okSay v x y = true) : ∃ p mn, x = nI p ∧ y = nI mn ∧ p < nP v ∧ mn < 1440 ∧ x.toNatClampNeg = p ∧ y.toNatClampNeg = mn ∧ nS v < 24 ∧ (nS v = 0 ∨ whn v (nS v - 1) ≤ mn) := by
  unfold okSay at h
  rw [Bool.and_eq_true, Bool.and_eq_true, Bool.or_eq_true, decide_eq_true_iff, decide_eq_true_iff, decide_eq_true_iff] at h
  obtain ⟨h1, h2, h3⟩ := h
  obtain ⟨p, mn, rfl, rfl, a, b, c, d⟩ := okSp_of hv h1
  rw [d] at h3
  exact ⟨p, mn, rfl, rfl, a, b, c, d, h2, h3⟩
theorem okOff_of {v : eV} (hv : Va v) {x y : Int32} (h : okOff v x y = true) : ∃ p mn, x = nI p ∧ y = nI mn ∧ p < nP v ∧ mn < 1440 ∧ x.toNatClampNeg = p ∧ y.toNatClampNeg = mn ∧ nO v < 6 := by
  unfold okOff at h
  rw [Bool.and_eq_true, decide_eq_true_iff] at h
  obtain ⟨p, mn, rfl, rfl, a, b, c, d⟩ := okSp_of hv h.1
  exact ⟨p, mn, rfl, rfl, a, b, c, d, h.2⟩
theorem say_ord {v : eV} (hv : Va v) {mn : Nat} (h : nS v = 0 ∨ whn v (nS v - 1) ≤ mn) : ∀ i, i < nS v → whn v i ≤ mn := fun i hi => by
  rcases h with z | z
  · omega
  · exact Nat.le_trans (hv.so (i := i) (j := nS v - 1) (by omega) (by omega)) z
theorem lyN_va {v : eV} (hv : Va v) {s : eTp} {k x p mn n : Nat} (hk : k = 4 ∧ x = nS v ∧ n = nS v + 1 ∧ nS v < 24 ∧ (∀ i, i < nS v → whn v i ≤ mn) ∨ k = 5 ∧ x = 24 + nO v ∧ n = nO v + 1 ∧ nO v < 6) (hp : p < nP v) (hm : mn < 1440) : Va (lyN v k x p mn n (lyV s v)) := by
  cases z : lyV s v with
  | inl e => exact hv
  | inr r =>
    obtain ⟨q1, q2, q3⟩ := lyV_i (f := r.1) (S := r.2) z
    exact vHr_va hv hk hp hm q1 q2 q3
theorem lyN_nam {v : eV} {s : eTp} {k x p mn n : Nat} : nam (lyN v k x p mn n (lyV s v)) = nam v := by
  cases lyV s v with
  | inl e => rfl
  | inr r => exact vHr_b (by decide) (by decide)
theorem nx_say_va {v : eV} (hv : Va v) (s : eTp) (x y : Int32) : Va (nx_say s v x y) := by
  unfold nx_say
  by_cases z : okSay v x y = true
  · rw [if_pos z]
    obtain ⟨p, mn, -, -, h1, h2, h3, h4, h5, h6⟩ := okSay_of hv z
    rw [h3, h4]
    exact lyN_va hv (Or.inl ⟨rfl, rfl, rfl, h5, say_ord hv h6⟩) h1 h2
  · rw [if_neg z]; exact hv
theorem nx_offer_va {v : eV} (hv : Va v) (s : eTp) (x y : Int32) : Va (nx_offer s v x y) := by
  unfold nx_offer
  by_cases z : okOff v x y = true
  · rw [if_pos z]
    obtain ⟨p, mn, -, -, h1, h2, h3, h4, h5⟩ := okOff_of hv z
    rw [h3, h4]
    exact lyN_va hv (Or.inr ⟨rfl, rfl, rfl, h5⟩) h1 h2
  · rw [if_neg z]; exact hv
theorem lyN_vb {v : eV} (hb : Vb v) {s : eTp} {k x p mn n : Nat} : Vb (lyN v k x p mn n (lyV s v)) := by
  cases z : lyV s v with
  | inl e => exact hb
  | inr r =>
    obtain ⟨q1, q2, q3⟩ := lyV_i (f := r.1) (S := r.2) z
    intro j hj
    show isq (vHr v k x p mn r.1 r.2 n) j ≤ 1
    by_cases y : j = x
    · rw [y, vHr_x.2.2.1]; exact q1
    · rw [show isq (vHr v k x p mn r.1 r.2 n) j = isq v j from vHr_j (by decide) y]; exact hb j hj
theorem nx_say_vb {v : eV} (hb : Vb v) (s : eTp) (x y : Int32) : Vb (nx_say s v x y) ∧ nam (nx_say s v x y) = nam v := by
  unfold nx_say
  by_cases z : okSay v x y = true
  · rw [if_pos z]; exact ⟨lyN_vb hb, lyN_nam⟩
  · rw [if_neg z]; exact ⟨hb, rfl⟩
theorem nx_offer_vb {v : eV} (hb : Vb v) (s : eTp) (x y : Int32) : Vb (nx_offer s v x y) ∧ nam (nx_offer s v x y) = nam v := by
  unfold nx_offer
  by_cases z : okOff v x y = true
  · rw [if_pos z]; exact ⟨lyN_vb hb, lyN_nam⟩
  · rw [if_neg z]; exact ⟨hb, rfl⟩
/-! the class' memory behind it -/
def sAd (t n a j : Nat) : Bool := decide (a = t ∧ j = 5 ∨ t + 1 ≤ a ∧ a ≤ t + 5 ∧ j = n ∨ a = 4 ∧ j = 1)
theorem sAd_n {t n a j : Nat} (h : ¬ (a = t ∧ j = 5) ∧ ¬ (t + 1 ≤ a ∧ a ≤ t + 5 ∧ j = n) ∧ ¬ (a = 4 ∧ j = 1)) : sAd t n a j = false := decide_eq_false (by omega)
def adM (t n : Nat) (sp mn : Int32) (so pl kl : Int64) (m : eM) : eM := sI (wrT t n sp mn so pl kl (sI m t 5 (nI (n + 1)))) 4 1 0
theorem adM_f (t n : Nat) (sp mn : Int32) (so pl kl : Int64) (m : eM) : Fr (sAd t n) m (adM t n sp mn so pl kl m) := by
  have f1 : Fr (sAd t n) m (sI m t 5 (nI (n + 1))) := Fr.rfl'.i (decide_eq_true (by omega))
  have f2 : Fr (sAd t n) (sI m t 5 (nI (n + 1))) (wrT t n sp mn so pl kl (sI m t 5 (nI (n + 1)))) := (wrT_f t n sp mn so pl kl (sI m t 5 (nI (n + 1)))).up fun a j q => sTi_n (by have := of_decide_eq_false q; omega)
  exact (f1.tr f2).i (decide_eq_true (by omega))
theorem adM_T {v v' : eV} {t n x : Nat} {g : Nat → Nat} {m : eM} (h : TkP v t n g m) (ht : 5 ≤ t) (hn : n < 31) (hx : g n = x) (hw : who v' x < nP v') (hm : whn v' x < 1440) (he : ∀ i, i < n → ent v' t i (g i) m) : TkP v' t (n + 1) g (adM t n (nI (who v' x)) (nI (whn v' x)) (soV v' x) (lieM v' x 0) (lieM v' x 1) m) := by
  have f := adM_f t n (nI (who v' x)) (nI (whn v' x)) (soV v' x) (lieM v' x 0) (lieM v' x 1) m
  obtain ⟨h1, ⟨r0, r1, r2, r3, r4⟩, h2, h3, h4⟩ := h
  refine ⟨h1, ⟨(f.r _ _).trans r0, (f.r _ _).trans r1, (f.r _ _).trans r2, (f.r _ _).trans r3, (f.r _ _).trans r4⟩, ?_, hn, fun i hi => ?_⟩
  · unfold adM
    rw [gI_sI, if_neg (by omega), (wrT_f t n (nI (who v' x)) (nI (whn v' x)) (soV v' x) (lieM v' x 0) (lieM v' x 1) (sI m t 5 (nI (n + 1)))).1 t 5 (sTi_n (by omega)), gI_w]
  · by_cases z : i = n
    · rw [z, hx]
      have w := wrT_e (v := v') (t := t) (i := n) (x := x) (sI m t 5 (nI (n + 1))) hw hm
      exact w.fr (S := fun a j => a == 4 && j == 1) (Fr.rfl'.i (by simp)) (fun a q1 q2 => by
        have : a ≠ 4 := by omega
        simp [this])
    · exact (he i (by omega)).fr f fun a q1 q2 => sAd_n (by omega)
theorem LkP_c {v v' : eV} {l : Nat} {m : eM} (h : LkP l (nL v) (lkC v) (lkM v) (lkF v) (lkT v) m) (e6 : nL v' = nL v) (b12 : lkC v' = lkC v) (b13 : lkM v' = lkM v) (b14 : lkF v' = lkF v) (b15 : lkT v' = lkT v) : LkP l (nL v') (lkC v') (lkM v') (lkF v') (lkT v') m := by rw [e6, b12, b13, b14, b15]; exact h
theorem LkP_d {v v' : eV} {l : Nat} {m : eM} (h : LkP l (nWt v) (wtC v) (wtM v) (fun _ => 0) (fun _ => 0) m) (e7 : nWt v' = nWt v) (b16 : wtC v' = wtC v) (b17 : wtM v' = wtM v) : LkP l (nWt v') (wtC v') (wtM v') (fun _ => 0) (fun _ => 0) m := by rw [e7, b16, b17]; exact h
theorem Cn_add {v : eV} (hv : Va v) {pp : Nat} {m : eM} (h : Cn v pp m) {k x p mn q n t : Nat} {S : Int64} (hk : k = 4 ∧ x = nS v ∧ n = nS v ∧ t = 22 ∧ nS v < 24 ∨ k = 5 ∧ x = 24 + nO v ∧ n = nO v ∧ t = 28 ∧ nO v < 6) (hp : p < nP v) (hm : mn < 1440) (hq : q ≤ 1) : Cn (vHr v k x p mn q S (n + 1)) pp (adM t n (nI p) (nI mn) S (if q = 1 then 0 else lieG v S 0 p) (if q = 1 then 0 else lieG v S 1 p) m) := by
  have hk45 : k = 4 ∨ k = 5 := by omega
  obtain ⟨x1, x2, x3, x4⟩ := vHr_x (v := v) (k := k) (x := x) (p := p) (mn := mn) (q := q) (n := n + 1) (S := S)
  have e2 : nP (vHr v k x p mn q S (n + 1)) = nP v := vHr_0 (by omega)
  have e6 : nL (vHr v k x p mn q S (n + 1)) = nL v := vHr_0 (by omega)
  have e7 : nWt (vHr v k x p mn q S (n + 1)) = nWt v := vHr_0 (by omega)
  have e8 : tru (vHr v k x p mn q S (n + 1)) = tru v := vHr_0 (by omega)
  have b12 : lkC (vHr v k x p mn q S (n + 1)) = lkC v := vHr_b (by decide) (by decide)
  have b13 : lkM (vHr v k x p mn q S (n + 1)) = lkM v := vHr_b (by decide) (by decide)
  have b14 : lkF (vHr v k x p mn q S (n + 1)) = lkF v := vHr_b (by decide) (by decide)
  have b15 : lkT (vHr v k x p mn q S (n + 1)) = lkT v := vHr_b (by decide) (by decide)
  have b16 : wtC (vHr v k x p mn q S (n + 1)) = wtC v := vHr_b (by decide) (by decide)
  have b17 : wtM (vHr v k x p mn q S (n + 1)) = wtM v := vHr_b (by decide) (by decide)
  have f0 : Fr (sAd t n) m (adM t n (nI p) (nI mn) S (if q = 1 then 0 else lieG v S 0 p) (if q = 1 then 0 else lieG v S 1 p) m) := adM_f _ _ _ _ _ _ _ _
  have hpO := h.2.2.2
  have hS := hv.s
  have hO := hv.o
  have hT : ∀ {g : Nat → Nat}, TkP v t n g m → g n = x → (∀ i, i < n → ent (vHr v k x p mn q S (n + 1)) t i (g i) m) → TkP (vHr v k x p mn q S (n + 1)) t (n + 1) g (adM t n (nI p) (nI mn) S (if q = 1 then 0 else lieG v S 0 p) (if q = 1 then 0 else lieG v S 1 p) m) := fun {g} a1 a2 a3 => by
    have := adM_T (v' := vHr v k x p mn q S (n + 1)) (x := x) a1 (by omega) (by omega) a2 (by rw [x1, e2]; exact hp) (by rw [x2]; exact hm) a3
    rw [x1, x2, x4, vHr_new hk45 hq, vHr_new hk45 hq] at this
    exact this
  refine ⟨⟨⟨h.1.1.1, (f0.r _ _).trans h.1.1.2.1, (f0.r _ _).trans h.1.1.2.2.1, (f0.r _ _).trans h.1.1.2.2.2.1, (f0.r _ _).trans h.1.1.2.2.2.2.1, (f0.r _ _).trans h.1.1.2.2.2.2.2⟩, ?_, ?_, ?_, ?_, ?_, ?_⟩, ?_, f0.sk h.sk, hpO⟩
  · rw [e8]; exact (f0.1 9 5 (sAd_n (by omega))).trans h.1.2.1
  · exact (Pp_hr hk45 h.p).fr f0 fun a j q1 q2 => sAd_n (by unfold pOK at hpO; omega)
  · rcases hk with ⟨rfl, rfl, rfl, rfl, h5⟩ | ⟨rfl, rfl, rfl, rfl, h5⟩
    · rw [show nS (vHr v 4 (nS v) p mn q S (nS v + 1)) = nS v + 1 from vHr_k]
      exact hT h.t rfl fun i hi => ent_hr (Or.inl rfl) (h.t.e hi) (by omega)
    · rw [show nS (vHr v 5 (24 + nO v) p mn q S (nO v + 1)) = nS v from vHr_0 (by decide)]
      exact (h.t.z.P fun i hi => ent_hr (Or.inr rfl) (h.t.e hi) (by omega)).fr f0 fun a j q1 q2 => sAd_n (by omega)
  · rcases hk with ⟨rfl, rfl, rfl, rfl, h5⟩ | ⟨rfl, rfl, rfl, rfl, h5⟩
    · rw [show nO (vHr v 4 (nS v) p mn q S (nS v + 1)) = nO v from vHr_0 (by decide)]
      exact (h.o.z.P fun i hi => ent_hr (Or.inl rfl) (h.o.e hi) (by omega)).fr f0 fun a j q1 q2 => sAd_n (by omega)
    · rw [show nO (vHr v 5 (24 + nO v) p mn q S (nO v + 1)) = nO v + 1 from vHr_k]
      exact hT h.o rfl fun i hi => ent_hr (Or.inr rfl) (h.o.e hi) (by omega)
  · exact LkP_c (h.l.fr f0 fun a j q1 q2 => sAd_n (by omega)) e6 b12 b13 b14 b15
  · exact LkP_d (h.w.fr f0 fun a j q1 q2 => sAd_n (by omega)) e7 b16 b17
  · exact h.2.1.fr f0 (fun j => sAd_n (by omega)) (fun j => sAd_n (by omega))
def sSy (a _ : Nat) : Bool := decide (a = 4 ∨ 6 ≤ a ∧ a ≤ 8 ∨ 22 ≤ a ∧ a ≤ 33)
theorem Fr.hrS {m m' : eM} (f : Fr sHr m m') : Fr sSy m m' := f.up fun a j q => by
  have := of_decide_eq_false q
  exact sHr_n (by omega) (by omega) (by omega) (by omega)
theorem Fr.adS {t n : Nat} {m m' : eM} (f : Fr (sAd t n) m m') (ht : t = 22 ∨ t = 28) : Fr sSy m m' := f.up fun a j q => by
  have := of_decide_eq_false q
  exact sAd_n (by omega)
theorem sSy_n {a j : Nat} (h : ¬ (a = 4 ∨ 6 ≤ a ∧ a ≤ 8 ∨ 22 ≤ a ∧ a ≤ 33)) : sSy a j = false := decide_eq_false h
theorem CI.z {v v' : eV} {p t : Nat} {tp tp' : Nat → Nat} {V : Nat → Option eV} {m m' : eM} (h : CI v p t tp V m) (f : Fr sSy m m') (hc : Cn v' p m') (h1 : gI m' 4 1 = 0) : CI v' p 0 tp' V m' := by
  obtain ⟨⟨-, hx⟩, -, hV⟩ := h
  refine ⟨⟨hc, by rw [f.x]; exact hx⟩, ⟨h1, fun i hi => by omega⟩, fun k hk => ⟨(f.1 _ _ rfl).trans (hV k hk).1, fun w hw => ?_⟩⟩
  obtain ⟨q, q1, q2, q3⟩ := (hV k hk).2 w hw
  exact ⟨q, q1.fr f (fun _ => sSy_n (by omega)) (fun a j _ _ => sSy_n (by omega)) (fun a j h1 h2 => sSy_n (by unfold pOK at q2; omega)), q2, by rw [f.x]; exact q3⟩
theorem Cn.cl {v : eV} {p : Nat} {m : eM} (h : Cn v p m) : Fr sSy m (sI m 4 1 0) ∧ Cn v p (sI m 4 1 0) := by
  have f : Fr (fun a j => a == 4 && j == 1) m (sI m 4 1 0) := Fr.rfl'.i (by simp)
  have hp := h.2.2.2
  have nn : ∀ a j, a ≠ 4 → (a == 4 && j == 1) = false := fun a j q => by simp [q]
  exact ⟨Fr.rfl'.i rfl, h.1.fr f (fun j => nn _ _ (by decide)) (fun a j x y => nn _ _ (by omega)) (fun a j x y => nn _ _ (by unfold pOK at hp; omega)), h.2.1.fr f (fun j => nn _ _ (by decide)) (fun j => nn _ _ (by decide)), f.sk h.2.2.1, hp⟩
theorem LC_isSpeaker_s {v : eV} {p : Nat} {m : eM} (h : Cn v p m) {D : Nat} (hD : 1 ≤ D) (x y : Int32) : LC_isSpeaker D 3 x y m = yI (bb (okSp v x y)) m := by
  obtain ⟨d, rfl⟩ : ∃ d, D = d + 1 := ⟨D - 1, by omega⟩
  rw [LC_isSpeaker_e _ _ _ _ _ kd_3, rf_3_2 h.sk, bR_s, gd9, h.r0, bR_s, h.gp, Pa_isPerson_s h.p, br0, LC_isMinute_s, br0]
  unfold okSp
  cases inN x (nP v) <;> cases inN y 1440 <;> rfl
theorem tp_of {v : eV} {p t : Nat} {tp : Nat → Nat} {V : Nat → Option eV} {m : eM} (hv : VI v t tp V) (h : CI v p t tp V m) : TpM 4 5 (t, tp) m := ⟨h.2.1.1, hv.2.1.1, h.2.1.2, hv.2.1.2⟩
theorem Ta_clear_s (d : Nat) (m : eM) : Ta_clear d 4 m = yV (sI m 4 1 0) := by rw [Ta_clear_e _ _ _ kd_4, mI_u]
theorem LC_heard {v : eV} {t0 : Nat} {tp : Nat → Nat} {V : Nat → Option eV} (hv : VI v t0 tp V) (hN : ∀ j, j < nF v → nam v j < 27 ^ 8) {pp : Nat} {m : eM} (h : CI v pp t0 tp V m) {k x p mn n t : Nat} (hk : k = 4 ∧ x = nS v ∧ n = nS v ∧ t = 22 ∧ nS v < 24 ∨ k = 5 ∧ x = 24 + nO v ∧ n = nO v ∧ t = 28 ∧ nO v < 6) (hz : TkZ t n m) (hp : p < nP v) (hm : mn < 1440) {D : Nat} (hD : 70 ≤ D) (d2 : Nat) : ∃ m', Fr sSy m m' ∧ (bI (LC_hear D 3 t (nI p) (nI mn) m) fun v28 m27 => bR (gR m27 3 0) fun r29 => gd r29 8 (bV (Ta_clear d2 r29 m27) fun m31 => yI v28 m31)) = yI (lyA (lyV (t0, tp) v)) m' ∧ CI (lyN v k x p mn (n + 1) (lyV (t0, tp) v)) pp 0 tp V m' := by
  have g4 : ∀ o, gd 4 8 o = o := fun o => gd_y kd_4
  have c0 := h.1.1
  obtain ⟨hE, hI⟩ := LC_hear_s hv.1.1 hN c0 (tp_of hv h) (t := t) (by omega) hz (by omega) (mn := mn) hp hD
  cases z : lyV (t0, tp) v with
  | inl e =>
    obtain ⟨m1, f1, e1⟩ := hE e z
    have c1 := c0.hr f1
    obtain ⟨f2, c2⟩ := c1.cl
    refine ⟨_, f1.hrS.tr f2, ?_, h.z (f1.hrS.tr f2) c2 (gI_w _ _ _ _)⟩
    rw [e1, bI_y, rf_3_0 c1.sk, bR_s, g4, Ta_clear_s, bV_y]
    rfl
  | inr r =>
    obtain ⟨m1, f1, e1⟩ := hI r.1 r.2 z
    obtain ⟨q1, q2, q3⟩ := lyV_i (f := r.1) (S := r.2) z
    have c1 := c0.hr f1
    have c2 := Cn_add hv.1.1 c1 (S := r.2) hk hp hm q1
    have f2 : Fr sSy m1 (adM t n (nI p) (nI mn) r.2 (if r.1 = 1 then 0 else lieG v r.2 0 p) (if r.1 = 1 then 0 else lieG v r.2 1 p) m1) := (adM_f _ _ _ _ _ _ _ _).adS (by omega)
    refine ⟨_, f1.hrS.tr f2, ?_, h.z (f1.hrS.tr f2) c2 (gI_w _ _ _ _)⟩
    have s2 : Sk (wrT t n (nI p) (nI mn) r.2 (if r.1 = 1 then 0 else lieG v r.2 0 p) (if r.1 = 1 then 0 else lieG v r.2 1 p) (sI m1 t 5 (nI (n + 1)))) := c1.sk
    rw [e1, bI_y, rf_3_0 s2, bR_s, g4, Ta_clear_s, bV_y]
    rfl
theorem LC_say_s {v : eV} {t : Nat} {tp : Nat → Nat} {V : Nat → Option eV} (hv : VI v t tp V) (hN : ∀ j, j < nF v → nam v j < 27 ^ 8) {p : Nat} {m : eM} (h : CI v p t tp V m) {D : Nat} (hD : 75 ≤ D) (x y : Int32) : ∃ m', Fr sSy m m' ∧ LC_say D 3 x y m = yI (sp_say (t, tp) v x y) m' ∧ CI (nx_say (t, tp) v x y) p 0 tp V m' := by
  obtain ⟨d, rfl⟩ : ∃ d, D = d + 1 := ⟨D - 1, by omega⟩
  have g4 : ∀ o, gd 4 8 o = o := fun o => gd_y kd_4
  have c0 := h.1.1
  have hs := c0.sk
  have hva := hv.1.1
  have hS := hva.s
  obtain ⟨f1, c1⟩ := c0.cl
  have clr : (bR (gR m 3 0) fun r3 => gd r3 8 (bV (Ta_clear d r3 m) fun m5 => yI (-1 : Int32) m5)) = yI (-1) (sI m 4 1 0) := by
    rw [rf_3_0 hs, bR_s, g4, Ta_clear_s, bV_y]
  have no : okSay v x y = false → ∀ o, o = yI (-1) (sI m 4 1 0) → ∃ m', Fr sSy m m' ∧ o = yI (sp_say (t, tp) v x y) m' ∧ CI (nx_say (t, tp) v x y) p 0 tp V m' := fun q o ho => by
    unfold sp_say nx_say
    rw [q, if_neg (by decide), if_neg (by decide)]
    exact ⟨_, f1, ho, h.z f1 c1 (gI_w _ _ _ _)⟩
  rw [LC_say_e _ _ _ _ _ kd_3, LC_isSpeaker_s c0 (by omega), br0]
  by_cases z : okSp v x y = true
  · obtain ⟨q, mn, rfl, rfl, hq, hmn, k1, k2⟩ := okSp_of hva z
    have hw : whn v (nS v - 1) < 1440 ∨ nS v = 0 := by
      by_cases w : nS v = 0
      · exact Or.inr w
      · exact Or.inl (hva.wn (Or.inl (by omega)))
    rw [if_pos z, rf_3_2 hs, bR_s, gd9, rf_9_1 hs, bR_s, gd22, Tk_size_e _ _ _ kd_22, c0.t.2.2.1, bI_y]
    by_cases z2 : nS v < 24
    · rw [if_neg (by rw [show (24 : Int32) = nI 24 from rfl, n_le (by omega) (by omega)]; omega), rf_3_2 hs, bR_s, gd9, rf_9_1 hs, bR_s, gd22, Tk_lastMinute_s c0.t (by omega), bI_y]
      by_cases z3 : nS v = 0 ∨ whn v (nS v - 1) ≤ mn
      · have ok : okSay v (nI q) (nI mn) = true := by
          unfold okSay
          rw [z, k2, decide_eq_true z2]
          rcases z3 with w | w
          · rw [decide_eq_true w]; rfl
          · rw [decide_eq_true w, Bool.or_true]; rfl
        obtain ⟨m', f', e', c'⟩ := LC_heard hv hN h (k := 4) (x := nS v) (n := nS v) (t := 22) (Or.inl ⟨rfl, rfl, rfl, rfl, z2⟩) c0.t.z hq hmn (D := d) (by omega) d
        unfold sp_say nx_say
        rw [ok, if_pos rfl, if_pos rfl, k1, k2]
        refine ⟨m', f', ?_, c'⟩
        rw [← e', if_neg, rf_3_2 hs, bR_s, gd9, rf_9_1 hs, bR_s]
        by_cases w : nS v = 0
        · rw [if_pos w, n_lt (by omega) (by omega)]; omega
        · rw [if_neg w, n_lt (by omega) (by omega)]; omega
      · have ok : okSay v (nI q) (nI mn) = false := by
          unfold okSay
          rw [k2, decide_eq_false (fun w => z3 (Or.inl w)), decide_eq_false (fun w => z3 (Or.inr w))]; simp
        refine no ok _ ?_
        rw [if_pos, clr]
        rw [if_neg (fun w => z3 (Or.inl w)), n_lt (by omega) (by omega)]; omega
    · refine no ?_ _ ?_
      · unfold okSay; rw [decide_eq_false z2]; simp
      · rw [if_pos (by rw [show (24 : Int32) = nI 24 from rfl, n_le (by omega) (by omega)]; omega), clr]
  · refine no ?_ _ ?_
    · unfold okSay; rw [Bool.eq_false_iff.mpr z]; rfl
    · rw [if_neg z, clr]
theorem LC_offer_s {v : eV} {t : Nat} {tp : Nat → Nat} {V : Nat → Option eV} (hv : VI v t tp V) (hN : ∀ j, j < nF v → nam v j < 27 ^ 8) {p : Nat} {m : eM} (h : CI v p t tp V m) {D : Nat} (hD : 75 ≤ D) (x y : Int32) : ∃ m', Fr sSy m m' ∧ LC_offer D 3 x y m = yI (sp_offer (t, tp) v x y) m' ∧ CI (nx_offer (t, tp) v x y) p 0 tp V m' := by
  obtain ⟨d, rfl⟩ : ∃ d, D = d + 1 := ⟨D - 1, by omega⟩
  have g4 : ∀ o, gd 4 8 o = o := fun o => gd_y kd_4
  have c0 := h.1.1
  have hs := c0.sk
  have hva := hv.1.1
  have hO := hva.o
  obtain ⟨f1, c1⟩ := c0.cl
  have clr : (bR (gR m 3 0) fun r3 => gd r3 8 (bV (Ta_clear d r3 m) fun m5 => yI (-1 : Int32) m5)) = yI (-1) (sI m 4 1 0) := by
    rw [rf_3_0 hs, bR_s, g4, Ta_clear_s, bV_y]
  have no : okOff v x y = false → ∀ o, o = yI (-1) (sI m 4 1 0) → ∃ m', Fr sSy m m' ∧ o = yI (sp_offer (t, tp) v x y) m' ∧ CI (nx_offer (t, tp) v x y) p 0 tp V m' := fun q o ho => by
    unfold sp_offer nx_offer
    rw [q, if_neg (by decide), if_neg (by decide)]
    exact ⟨_, f1, ho, h.z f1 c1 (gI_w _ _ _ _)⟩
  rw [LC_offer_e _ _ _ _ _ kd_3, LC_isSpeaker_s c0 (by omega), br0]
  by_cases z : okSp v x y = true
  · obtain ⟨q, mn, rfl, rfl, hq, hmn, k1, k2⟩ := okSp_of hva z
    rw [if_pos z, rf_3_2 hs, bR_s, gd9, rf_9_2 hs, bR_s, gd28, Tk_size_e _ _ _ kd_28, c0.o.2.2.1, bI_y]
    by_cases z2 : nO v < 6
    · have ok : okOff v (nI q) (nI mn) = true := by
        unfold okOff
        rw [z, decide_eq_true z2]; rfl
      obtain ⟨m', f', e', c'⟩ := LC_heard hv hN h (k := 5) (x := 24 + nO v) (n := nO v) (t := 28) (Or.inr ⟨rfl, rfl, rfl, rfl, z2⟩) c0.o.z hq hmn (D := d) (by omega) d
      unfold sp_offer nx_offer
      rw [ok, if_pos rfl, if_pos rfl, k1, k2]
      refine ⟨m', f', ?_, c'⟩
      rw [← e', if_neg (by rw [show (6 : Int32) = nI 6 from rfl, n_le (by omega) (by omega)]; omega), rf_3_2 hs, bR_s, gd9, rf_9_2 hs, bR_s]
    · refine no ?_ _ ?_
      · unfold okOff; rw [decide_eq_false z2]; simp
      · rw [if_pos (by rw [show (6 : Int32) = nI 6 from rfl, n_le (by omega) (by omega)]; omega), clr]
  · refine no ?_ _ ?_
    · unfold okOff; rw [Bool.eq_false_iff.mpr z]; rfl
    · rw [if_neg z, clr]
