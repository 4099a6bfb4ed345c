/-! ===== say and offer: the reference ===== -/
/-- what a reading may write: nothing that a view holds -/
def sNw (a j : Nat) : Bool := decide (a = 208 ∧ (j ≤ 9 ∨ j = 23 ∨ j = 38) ∨ a = 210 ∧ 3 ≤ j ∨ a = 211 ∧ 18 ≤ j ∨ 212 ≤ a ∧ a ≤ 215 ∧ 6 ≤ j ∨ 216 ≤ a ∧ a ≤ 218 ∧ 2 ≤ j ∨ a = 220 ∨ 222 ≤ a ∧ a ≤ 236)
theorem sNw_q {a j : Nat} {q : Nat × Nat} (h : mpI a j = some q) : sNw a j = false := by
  have h2 := of_decide_eq_true (mpI_p h)
  have h3 : ¬ (a = 208 ∧ j = 1) := fun z => by
    rw [z.1, z.2] at h
    cases h
  exact decide_eq_false (by omega)
theorem sNw_n {a j : Nat} (h : a < 208 ∨ a = 209 ∨ a = 219 ∨ a = 221 ∨ 236 < a) : sNw a j = false := decide_eq_false (by omega)
theorem Mp.nw {v : eV} {m m' : eM} (h : Mp v m) (f : Fr sNw m m') : Mp v m' := ⟨f.sk h.1, fun a j q hq => (f.1 _ _ (sNw_q hq)).trans (h.2.1 a j q hq), fun a j q hq => (f.2.1 _ _ (sNw_n (by have := mpL_a hq; omega))).trans (h.2.2.1 a j q hq), fun j hj => (f.2.1 211 j (decide_eq_false (by omega))).trans (h.2.2.2 j hj)⟩
theorem Fr.reN {m m' : eM} (f : Fr sRe m m') : Fr sNw m m' := f.up fun a j q => by
  have := of_decide_eq_false q
  exact sRd_n (by omega) (by omega) (by omega) (by omega)
theorem Fr.soN {m m' : eM} (f : Fr sSo m m') : Fr sNw m m' := f.up fun a j q => decide_eq_false (by have := of_decide_eq_false q; omega)
theorem Fr.tmN {m m' : eM} (f : Fr sTm m m') : Fr sNw m m' := f.up fun a j q => sTm_n (by have := of_decide_eq_false q; omega)
theorem MI.z {v v' : eV} {t : Nat} {tp tp' : Nat → Nat} {V : Nat → Option eV} {m m' : eM} {S : Nat → Nat → Bool} (h : MI v t tp V m) (f : Fr S m m') (hS : ∀ a j, 255 ≤ a → a ≤ 257 → S a j = false) (hm : Mp v' m') (h1 : gI m' 208 1 = 0) : MI v' 0 tp' V m' := by
  obtain ⟨-, -, hV⟩ := h
  exact ⟨hm, ⟨h1, fun i hi => by omega⟩, fun k hk => ⟨(f.1 _ _ (hS _ _ (by decide) (by decide))).trans (hV k hk).1, fun w hw => ((hV k hk).2 w hw).fr (fun j _ => f.1 _ _ (hS _ _ (by decide) (by decide))) (fun j _ => f.2.1 _ _ (hS _ _ (by decide) (by decide)))⟩⟩
/-- what a call of the reference may write, but for its marks -/
def sMx (a _ : Nat) : Bool := decide (208 ≤ a ∧ a ≤ 254 ∧ a ≠ 221)
theorem sMx_n {a j : Nat} (h : a < 208 ∨ a = 221 ∨ 254 < a) : sMx a j = false := decide_eq_false (by omega)
theorem Fr.nwX {m m' : eM} (f : Fr sNw m m') : Fr sMx m m' := f.up fun a j q => decide_eq_false (by have := of_decide_eq_false q; omega)
def sLa (a j : Nat) : Bool := decide (a = 210 ∧ 3 ≤ j ∨ a = 211 ∧ 18 ≤ j)
theorem Fr.laN {m m' : eM} (f : Fr sLa m m') : Fr sNw m m' := f.up fun a j q => decide_eq_false (by have := of_decide_eq_false q; omega)
theorem Mo_lays_3_s (d : Nat) (x1 x2 x3 : Int32) : ∀ j k m, k + j = 3 → Sk m → (∀ i, i < k → gI m 210 (3 + i) = gI m 210 i) → ∃ m', Fr sLa m m' ∧ Mo_lays_3 (d + 1) 208 x1 x2 x3 (nI k) m = Mo_lays_34 (d + 1) 208 x1 x2 x3 (0 : Int32) m' ∧ ∀ i, i < 3 → gI m' 210 (3 + i) = gI m' 210 i
  | 0, k, m, e, hs, h => by
    refine ⟨m, Fr.rfl', ?_, by rw [show k = 3 by omega] at h; exact h⟩
    rw [Mo_lays_3_e _ _ _ _ _ _ _ kd_208, if_pos (by rw [show (3 : Int32) = nI 3 from rfl, n_le (by omega) (by omega)]; omega)]
  | j + 1, k, m, e, hs, h => by
    obtain ⟨m', f, e2, h2⟩ := Mo_lays_3_s d x1 x2 x3 j (k + 1) (sI m 210 (3 + k) (gI m 210 k)) (by omega) hs (fun i hi => by
      rw [gI_sI, gI_sI, if_neg (show ¬ (210 = 210 ∧ i = 3 + k) by omega)]
      by_cases z : i = k
      · rw [if_pos ⟨rfl, by omega⟩, z]
      · rw [if_neg (by omega)]; exact h i (by omega))
    refine ⟨m', (Fr.rfl'.i (a := 210) (j := 3 + k) (v := gI m 210 k) (decide_eq_true (by omega))).tr f, ?_, h2⟩
    rw [← e2, Mo_lays_3_e _ _ _ _ _ _ _ kd_208, if_neg (by rw [show (3 : Int32) = nI 3 from rfl, n_le (by omega) (by omega)]; omega), rf_208_10 hs, bR_s, bR_s, ga_210 (by omega), show (3 : Int32) = nI 3 from rfl, nI_add, gw_210 (by omega), mI_u, n_cl (by omega), n_cl (by omega), nI_1]
/-- the names' copy is through -/
def LaN (m : eM) : Prop := ∀ i, i < 18 → gL m 211 (18 + i) = gL m 211 i
theorem Mo_lays_34_s (d : Nat) (x1 x2 x3 : Int32) : ∀ j k m, k + j = 18 → Sk m → (∀ i, i < k → gL m 211 (18 + i) = gL m 211 i) → ∃ m', Fr sLa m m' ∧ Mo_lays_34 (d + 1) 208 x1 x2 x3 (nI k) m = Mo_lays_34 (d + 1) 208 x1 x2 x3 (nI 18) m' ∧ LaN m' ∧ ∀ j, gI m' 210 j = gI m 210 j
  | 0, k, m, e, hs, h => ⟨m, Fr.rfl', by rw [show k = 18 by omega], by rw [show k = 18 by omega] at h; exact h, fun _ => rfl⟩
  | j + 1, k, m, e, hs, h => by
    obtain ⟨m', f, e2, h2, g2⟩ := Mo_lays_34_s d x1 x2 x3 j (k + 1) (sL m 211 (18 + k) (gL m 211 k)) (by omega) hs (fun i hi => by
      rw [gL_sL, gL_sL, if_neg (show ¬ (211 = 211 ∧ i = 18 + k) by omega)]
      by_cases z : i = k
      · rw [if_pos ⟨rfl, by omega⟩, z]
      · rw [if_neg (by omega)]; exact h i (by omega))
    refine ⟨m', (Fr.rfl'.l (a := 211) (j := 18 + k) (v := gL m 211 k) (decide_eq_true (by omega))).tr f, ?_, h2, g2⟩
    rw [← e2, Mo_lays_34_e _ _ _ _ _ _ _ kd_208, if_neg (by rw [show (18 : Int32) = nI 18 from rfl, n_le (by omega) (by omega)]; omega), rf_208_11 hs, bR_s, bR_s, ga_211 (by omega), show (18 : Int32) = nI 18 from rfl, nI_add, gw_211 (by omega), mJ_u, n_cl (by omega), n_cl (by omega), nI_1]
theorem Mo_starts_s {D : Nat} (hD : 2 ≤ D) {t : Nat} {tp : Nat → Nat} {m : eM} (hs : Sk m) (h1 : gI m 208 1 = nI t) (h2 : ∀ i, i < t → gI m 209 i = nI (tp i)) (ht : t ≤ 1000) (ht2 : ∀ i, i < t → tp i < 128) : ∃ m', Fr sNw m m' ∧ Mo_starts D 208 m = yV m' ∧ TzM (t, tp) m' ∧ TkM (t, tp) 0 m' ∧ gI m' 208 1 = 0 ∧ (∀ j, gI m' 210 j = gI m 210 j) ∧ ∀ j, gL m' 211 j = gL m 211 j := by
  obtain ⟨d, rfl⟩ : ∃ d, D = d + 1 := ⟨D - 1, by omega⟩
  obtain ⟨m0, hm0⟩ : ∃ m0, m0 = sI (sI (sI m 208 3 (nI t)) 208 1 0) 208 4 0 := ⟨_, rfl⟩
  have f0 : Fr sNw m m0 := by rw [hm0]; exact ((Fr.rfl'.i rfl).i rfl).i rfl
  have z0 : TzM (t, tp) m0 := ⟨by rw [hm0]; rfl, ht, fun i hi => by rw [hm0]; exact h2 i hi, ht2⟩
  obtain ⟨m', f, e, k⟩ := Mo_nt_s (D := d) (by omega) (s := (t, tp)) (b := 0) (Nat.zero_le _) (f0.sk hs) z0 (by rw [hm0]; rfl)
  refine ⟨m', f0.tr f.tmN, ?_, z0.st f, k, (f.1 _ _ rfl).trans (by rw [hm0]; rfl), fun j => (f.1 _ _ rfl).trans (by rw [hm0]; rfl), fun j => (f.2.1 _ _ rfl).trans (by rw [hm0]; rfl)⟩
  rw [Mo_starts_e _ _ _ kd_208, mI_u, mI_u, mI_u, h1]
  show (bV (Mo_nextToken d 208 (sI (sI (sI m 208 3 (nI t)) 208 1 0) 208 4 0)) fun m4 => yV m4) = _
  rw [← hm0, e, bV_y]
theorem mpI_w {x : Nat} (h : x < 30) : mpI 237 x = some (9, x) ∧ mpI 238 x = some (10, x) ∧ mpI 240 x = some (11, x) ∧ mpL 239 x = some (0, x) := by
  refine ⟨?_, ?_, ?_, ?_⟩
  · simp [mpI, h]
  · simp [mpI, h]
  · simp [mpI, h]
  · simp [mpL, h]
/-- an entry is written, but for its worlds -/
def entM (x p mn q : Nat) (m : eM) : eM := sI (sI (sI m 237 x (nI p)) 238 x (nI mn)) 240 x (nI q)
theorem entM_mp {v : eV} {m : eM} (h : Mp v m) {x : Nat} (hx : x < 30) (p mn q : Nat) : Mp (upV (upV (upV v 9 x p) 10 x mn) 11 x q) (entM x p mn q m) := by
  obtain ⟨a1, a2, a3, a4⟩ := mpI_w hx
  exact ((h.up a1 p).up a2 mn).up a3 q
theorem entM_f (x p mn q : Nat) (m : eM) : Fr (fun a _ => decide (237 ≤ a ∧ a ≤ 240)) m (entM x p mn q m) := ((Fr.rfl'.i rfl).i rfl).i rfl
def lyT (v : eV) (x p mn : Nat) (o : Sum Nat (Nat × Int64)) : eV := match o with
  | .inl _ => v
  | .inr r => vTk v x p mn r.1 r.2
/-- one more reads: LAYS -/
theorem Mo_lays_s {v : eV} {t : Nat} {tp : Nat → Nat} {V : Nat → Option eV} (hv : VI v t tp V) (hN : ∀ j, j < nF v → nam v j < 27 ^ 8) {m : eM} (hM : Mp v m) (t1 : gI m 208 1 = nI t) (t2 : ∀ i, i < t → gI m 209 i = nI (tp i)) (h0 : gI m 221 0 = 0) {x p mn : Nat} (hx : x < 30) {D : Nat} (hD : 6 ≤ D) : ∃ m', Fr sMx m m' ∧ Mo_lays D 208 (nI x) (nI p) (nI mn) m = yI (lyA (lyV (t, tp) v)) m' ∧ gI m' 208 1 = 0 ∧ Mp (lyT v x p mn (lyV (t, tp) v)) m' := by
  obtain ⟨d, rfl⟩ : ∃ d, D = d + 1 := ⟨D - 1, by omega⟩
  have hf := hv.1.1.f
  obtain ⟨m1, f1, e1, g1⟩ := Mo_lays_3_s d (nI x) (nI p) (nI mn) 3 0 m rfl hM.sk (fun i hi => by omega)
  obtain ⟨m2, f2, e2, g2, g2'⟩ := Mo_lays_34_s d (nI x) (nI p) (nI mn) 18 0 m1 rfl (f1.sk hM.sk) (fun i hi => by omega)
  have f12 := f1.tr f2
  have M2 := hM.nw f12.laN
  obtain ⟨m3, f3, e3, z3, k3, c3, g3, g3'⟩ := Mo_starts_s (D := d) (by omega) M2.sk ((f12.1 208 1 rfl).trans t1) (fun i hi => (f12.1 209 i rfl).trans (t2 i hi)) hv.2.1.1 hv.2.1.2
  have M3 := M2.nw f3
  have fx3 : Fr sMx m m3 := (f12.laN.tr f3).nwX
  have h03 : gI m3 221 0 = 0 := (fx3.1 221 0 (sMx_n (by omega))).trans h0
  have hk := mK_lt (t, tp) 0
  have c : MaC (nam v) (nF v) m3 := by
    refine ⟨?_, hf, fun j hj => ⟨?_, hN j hj⟩⟩
    · rw [g3, g2' 3, g1 0 (by decide), ← g2' 0, mp_f M2]
    · rw [g3', g2 j (by omega), M2.2.2.2 j (by omega)]
  have e0 : Mo_lays (d + 1) 208 (nI x) (nI p) (nI mn) m = if ¬ nI (mK (t, tp) 0) = 0 then (bI (Mo_reads d 208 (1 : Int32) m3) fun v3 m2 => if ¬ v3 = 0 then (Mo_lays_100 (d + 1) 208 (nI x) (nI p) (nI mn) (0 : Int32) m2) else (yI (gI m2 208 9) m2)) else (Mo_lays_100 (d + 1) 208 (nI x) (nI p) (nI mn) (1 : Int32) m3) := by
    have e1 : Mo_lays_3 (d + 1) 208 (nI x) (nI p) (nI mn) (0 : Int32) m = _ := e1
    have e2 : Mo_lays_34 (d + 1) 208 (nI x) (nI p) (nI mn) (0 : Int32) m1 = _ := e2
    rw [Mo_lays_e _ _ _ _ _ _ kd_208, e1, e2, Mo_lays_34_e _ _ _ _ _ _ _ kd_208, if_pos (by decide), e3, bV_y, k3.2.1]
  rw [e0]
  by_cases z : tK (t, tp) 0 = 0
  · rw [if_neg (by rw [mK_0.mpr z]; exact fun q => q rfl), lyV_q z]
    have M4 := entM_mp M3 hx p mn 1
    obtain ⟨-, -, -, a4⟩ := mpI_w hx
    have M5 := M4.upL a4 0
    have f4 := entM_f x p mn 1 m3
    have s4 : Sk (entM x p mn 1 m3) := f4.sk M3.sk
    refine ⟨sL (entM x p mn 1 m3) 239 x 0, (fx3.tr (f4.up fun a j q => decide_eq_false (by have := of_decide_eq_false q; omega))).l rfl, ?_, ?_, M5⟩
    · rw [Mo_lays_100_e _ _ _ _ _ _ _ kd_208, rf_208_45 M3.sk, bR_s, gw_237 (by omega), mI_u, n_cl (by omega), gR_sI, rf_208_46 M3.sk, bR_s, gw_238 (by omega), mI_u, gR_sI, gR_sI, rf_208_48 M3.sk, bR_s, gw_240 (by omega), mI_u, gR_sI, gR_sI, gR_sI, rf_208_47 M3.sk, bR_s, if_neg ten1, gw_239 (by omega), mJ_u]
      rfl
    · exact (f4.1 208 1 rfl).trans c3
  · have hR := Mo_reads_s (D := d) (by omega) (s := (t, tp)) (N := nam v) (n := nF v) (b := 0) (Nat.zero_le _) ⟨⟨M3.sk, z3⟩, k3, c⟩ true
    rw [if_pos (by rw [show (0 : Int32) = nI 0 from rfl, n_eq (by omega) (by omega)]; exact fun q => z (mK_0.mp q))]
    have hR : (∀ e, pE (t, tp) (nam v) (nF v) 0 = .inl e → ∃ m', Fr sRe m3 m' ∧ Mo_reads d 208 1 m3 = yI 0 m' ∧ gI m' 208 9 = nI e) ∧ _ := hR
    cases y : pE (t, tp) (nam v) (nF v) 0 with
    | inl e =>
      obtain ⟨m4, f4, e4, r4⟩ := hR.1 e y
      rw [e4, bI_y, if_neg (fun q => q rfl), r4, lyV_e z y]
      exact ⟨m4, fx3.tr f4.reN.nwX, rfl, (f4.1 208 1 rfl).trans c3, M3.nw f4.reN⟩
    | inr g =>
      obtain ⟨hY, hX⟩ := hR.2 g y
      rw [lyV_s z y]
      by_cases w : tK (t, tp) g.1 = 0
      · obtain ⟨m4, f4, e4, q4, r4⟩ := hY (decide_eq_true w)
        have e4 : Mo_reads d 208 1 m3 = yI 1 m4 := e4
        have M4 := M3.nw f4.reN
        have M5 := entM_mp M4 hx p mn 0
        have f5 := entM_f x p mn 0 m4
        have fx4 := fx3.tr f4.reN.nwX
        have hl := pE_G (t, tp) (nam v) (nF v) 0 g (Nat.zero_le _) y
        have h1000 : t ≤ 1000 := hv.2.1.1
        have hB : tB (t, tp) g.1 ≤ t := (tB_le hl.1).2
        have hl1 : g.1 ≤ t := hl.1
        have h04 : gI m4 221 0 = 0 := (fx4.1 221 0 (sMx_n (by omega))).trans h0
        have hq2 : ∀ k, k < g.2.2.1.length → gI (entM x p mn 0 m4) 220 k = nI (g.2.2.1.getD k 0) := fun k hk => (f5.1 220 k rfl).trans (q4.2.2.1.2 k hk)
        obtain ⟨m6, f6, e6⟩ := Mo_soIn_s (pE_M (s := (t, tp)) hv.2.1.2 hf y) (D := d) (by omega) hf M5.sk ((f5.1 221 0 rfl).trans h04) ((f5.1 222 0 rfl).trans r4) (by omega) hq2
        have M6 := M5.nw f6.soN
        obtain ⟨-, -, -, a4⟩ := mpI_w hx
        have M7 := M6.upL a4 (woN (nF v) g.2.2.2)
        have fx6 : Fr sMx m m6 := (fx4.tr (f5.up fun a j q => decide_eq_false (by have := of_decide_eq_false q; omega))).tr f6.soN.nwX
        have e100 : Mo_lays_100 (d + 1) 208 (nI x) (nI p) (nI mn) (0 : Int32) m4 = yI 0 (sL m6 239 x (woN (nF v) g.2.2.2)) := by
          have M5' : gI (entM x p mn 0 m4) 210 0 = nI (nF v) := (f5.1 210 0 rfl).trans (mp_f M4)
          rw [Mo_lays_100_e _ _ _ _ _ _ _ kd_208, rf_208_45 M4.sk, bR_s, gw_237 (by omega), mI_u, n_cl (by omega), gR_sI, rf_208_46 M4.sk, bR_s, gw_238 (by omega), mI_u, gR_sI, gR_sI, rf_208_48 M4.sk, bR_s, gw_240 (by omega), mI_u, gR_sI, gR_sI, gR_sI, rf_208_47 M4.sk, bR_s, if_pos rfl]
          show (bR (gR (entM x p mn 0 m4) 208 10) fun r8 => _) = _
          rw [rf_208_10 M5.sk, bR_s, show (0 : Int32) = nI 0 from rfl, ga_210 (by decide), n_cl (by decide)]
          show (bL (Mo_soIn d 208 (gI (entM x p mn 0 m4) 210 0) (entM x p mn 0 m4)) fun v10 m9 => _) = _
          rw [M5', e6, bL_y, gw_239 (by omega), mJ_u]
        rw [e4, bI_y, if_pos ten1, e100, if_pos w]
        exact ⟨_, fx6.l rfl, rfl, (f6.1 208 1 rfl).trans ((f5.1 208 1 rfl).trans ((f4.1 208 1 rfl).trans c3)), M7⟩
      · obtain ⟨m4, f4, e4, r4⟩ := hX (decide_eq_false w)
        have e4 : Mo_reads d 208 1 m3 = yI 0 m4 := e4
        rw [e4, bI_y, if_neg (fun q => q rfl), r4, if_neg w]
        exact ⟨m4, fx3.tr f4.reN.nwX, rfl, (f4.1 208 1 rfl).trans c3, M3.nw f4.reN⟩
/-- the fault is told by the answer -/
theorem lyA_0 {s : eTp} {v : eV} (hs : s.1 ≤ 1000) : (lyA (lyV s v) = 0) = ((∃ r, lyV s v = .inr r) : Prop) := by
  cases z : lyV s v with
  | inl e =>
    have := lyV_F z
    refine propext ⟨fun q => ?_, fun q => by obtain ⟨r, hr⟩ := q; cases hr⟩
    have q : nI e = nI 0 := q
    rw [n_eq (by omega) (by omega)] at q
    omega
  | inr r => exact propext ⟨fun _ => ⟨r, rfl⟩, fun _ => rfl⟩
/-- the count behind it -/
theorem lyC {v : eV} {s : eTp} {k x p mn n c : Nat} {m : eM} (hs : s.1 ≤ 1000) (hM : Mp (lyT v x p mn (lyV s v)) m) (hc : mpI 208 c = some (0, k)) (hn : v.1 0 k = n) : (if ¬ lyA (lyV s v) = 0 then (mI m 208 c ((gI m 208 c) + (0 : Int32)) fun m3 => yI (lyA (lyV s v)) m3) else (mI m 208 c ((gI m 208 c) + (1 : Int32)) fun m4 => yI (lyA (lyV s v)) m4)) = yI (lyA (lyV s v)) (sI m 208 c (gI m 208 c + (if lyA (lyV s v) = 0 then 1 else 0))) ∧ Mp (lyN v k x p mn (n + 1) (lyV s v)) (sI m 208 c (gI m 208 c + (if lyA (lyV s v) = 0 then 1 else 0))) := by
  have h0 := lyA_0 (v := v) hs
  cases z : lyV s v with
  | inl e =>
    rw [z] at h0 hM
    have hne : ¬ lyA (.inl e) = 0 := by
      rw [h0]
      rintro ⟨r, hr⟩
      cases hr
    rw [if_pos hne, if_neg hne, mI_u]
    refine ⟨rfl, ?_⟩
    have e1 : gI m 208 c = nI (v.1 0 k) := hM.2.1 208 c (0, k) hc
    have hM : Mp v m := hM
    have := hM.up hc (v.1 0 k)
    have e2 : upV v 0 k (v.1 0 k) = v := by
      refine Prod.ext (funext fun a => funext fun j => ?_) rfl
      show (if a = 0 ∧ j = k then v.1 0 k else v.1 a j) = v.1 a j
      by_cases y : a = 0 ∧ j = k
      · rw [if_pos y, y.1, y.2]
      · rw [if_neg y]
    have this : Mp (upV v 0 k (v.1 0 k)) (sI m 208 c (nI (v.1 0 k))) := this
    rw [e2] at this
    rw [e1, Int32.add_zero]
    exact this
  | inr r =>
    rw [z] at hM
    have hM : Mp (vTk v x p mn r.1 r.2) m := hM
    have h1 : ¬ ¬ lyA (.inr r) = 0 := fun q => q rfl
    rw [if_neg h1, if_pos (show lyA (.inr r) = 0 from rfl), mI_u]
    refine ⟨rfl, ?_⟩
    have e1 : gI m 208 c = nI n := by
      rw [hM.2.1 208 c (0, k) hc, ← hn]
      exact congrArg nI (vTk_o (by omega))
    rw [e1, nI_1]
    exact hM.up hc (n + 1)
theorem Mo_say_s {v : eV} {t : Nat} {tp : Nat → Nat} {V : Nat → Option eV} (hv : VI v t tp V) (hN : ∀ j, j < nF v → nam v j < 27 ^ 8) {m : eM} (h : MI v t tp V m) (h0 : gI m 221 0 = 0) {D : Nat} (hD : 9 ≤ D) (x y : Int32) : ∃ m', Fr sMx m m' ∧ Mo_say D 208 x y m = yI (sp_say (t, tp) v x y) m' ∧ MI (nx_say (t, tp) v x y) 0 tp V m' := by
  obtain ⟨d, rfl⟩ : ∃ d, D = d + 1 := ⟨D - 1, by omega⟩
  have hva := hv.1.1
  have hS := hva.s
  have hM := h.1
  have f1 : Fr sNw m (sI m 208 0 0) := Fr.rfl'.i rfl
  have M1 := hM.nw f1
  have hs1 := M1.sk
  obtain ⟨m1, hm1⟩ : ∃ m1, m1 = sI m 208 0 0 := ⟨_, rfl⟩
  rw [← hm1] at f1 M1 hs1
  have t1 : gI m1 208 1 = nI t := by rw [hm1]; exact h.2.1.1
  have t2 : ∀ i, i < t → gI m1 209 i = nI (tp i) := by rw [hm1]; exact h.2.1.2
  have h01 : gI m1 221 0 = 0 := by rw [hm1]; exact h0
  have f2 : Fr sNw m1 (sI m1 208 1 0) := Fr.rfl'.i rfl
  have no : okSay v x y = false → ∀ o, o = yI (-1) (sI m1 208 1 0) → ∃ m', Fr sMx m m' ∧ o = yI (sp_say (t, tp) v x y) m' ∧ MI (nx_say (t, tp) v x y) 0 tp V m' := fun q o ho => by
    unfold sp_say nx_say
    rw [q, if_neg (by decide), if_neg (by decide)]
    exact ⟨_, (f1.tr f2).nwX, ho, h.z (f1.tr f2) (fun a j q1 q2 => sNw_n (by omega)) (M1.nw f2) (gI_w _ _ _ _)⟩
  rw [Mo_say_e _ _ _ _ _ kd_208, mI_u, ← hm1, Mo_isPerson_s M1 hs1, br0]
  by_cases z : inN x (nP v) = true
  · rw [if_pos z, Mo_isMinute_s, br0]
    by_cases z2 : inN y 1440 = true
    · have zs : okSp v x y = true := by unfold okSp; rw [z, z2]; rfl
      obtain ⟨q, mn, rfl, rfl, hq, hmn, k1, k2⟩ := okSp_of hva zs
      rw [if_pos z2, mp_s M1]
      by_cases z3 : nS v < 24
      · rw [if_neg (by rw [show (24 : Int32) = nI 24 from rfl, n_eq (by omega) (by omega)]; omega)]
        have go : okSay v (nI q) (nI mn) = true → ∃ m', Fr sMx m m' ∧ Mo_say_58 (d + 1) 208 (nI q) (nI mn) m1 = yI (sp_say (t, tp) v (nI q) (nI mn)) m' ∧ MI (nx_say (t, tp) v (nI q) (nI mn)) 0 tp V m' := fun ok => by
          obtain ⟨m3, f3, e3, c3, M3⟩ := Mo_lays_s hv hN M1 t1 t2 h01 (x := nS v) (p := q) (mn := mn) (by omega) (D := d) (by omega)
          obtain ⟨e4, M4⟩ := lyC (k := 4) (n := nS v) (c := 40) hv.2.1.1 M3 rfl rfl
          unfold sp_say nx_say
          rw [if_pos ok, if_pos ok, k1, k2]
          have fx : Fr sMx m (sI m3 208 40 (gI m3 208 40 + (if lyA (lyV (t, tp) v) = 0 then 1 else 0))) := (f1.nwX.tr f3).i rfl
          refine ⟨_, fx, ?_, h.z fx (fun a j q1 q2 => sMx_n (by omega)) M4 c3⟩
          rw [Mo_say_58_e _ _ _ _ _ kd_208, mp_s M1, e3, bI_y, e4]
        by_cases z4 : nS v = 0
        · rw [if_pos (by rw [z4]; decide)]
          refine go ?_
          unfold okSay
          rw [zs, decide_eq_true z3, decide_eq_true z4]; rfl
        · have hw : whn v (nS v - 1) < 1440 := hva.wn (Or.inl (by omega))
          rw [if_neg (by rw [show (0 : Int32) = nI 0 from rfl, n_le (by omega) (by omega)]; omega), rf_208_46 hs1, bR_s, n_s1 (by omega), ga_238 (by omega), n_cl (by omega), mp_whn M1 (by omega)]
          by_cases z5 : whn v (nS v - 1) ≤ mn
          · rw [if_pos (by rw [n_le (by omega) (by omega)]; exact z5)]
            refine go ?_
            unfold okSay
            rw [zs, k2, decide_eq_true z3, decide_eq_true z5, Bool.or_true]; rfl
          · rw [if_neg (by rw [n_le (by omega) (by omega)]; exact z5), mI_u]
            refine no ?_ _ rfl
            unfold okSay
            rw [k2, decide_eq_false z4, decide_eq_false z5]; simp
      · rw [if_pos (by rw [show (24 : Int32) = nI 24 from rfl, n_eq (by omega) (by omega)]; omega), mI_u]
        refine no ?_ _ rfl
        unfold okSay; rw [decide_eq_false z3]; simp
    · rw [if_neg z2, mI_u]
      refine no ?_ _ rfl
      unfold okSay okSp; rw [Bool.eq_false_iff.mpr z2]; simp
  · rw [if_neg z, mI_u]
    refine no ?_ _ rfl
    unfold okSay okSp; rw [Bool.eq_false_iff.mpr z]; simp
theorem Mo_offer_s {v : eV} {t : Nat} {tp : Nat → Nat} {V : Nat → Option eV} (hv : VI v t tp V) (hN : ∀ j, j < nF v → nam v j < 27 ^ 8) {m : eM} (h : MI v t tp V m) (h0 : gI m 221 0 = 0) {D : Nat} (hD : 9 ≤ D) (x y : Int32) : ∃ m', Fr sMx m m' ∧ Mo_offer D 208 x y m = yI (sp_offer (t, tp) v x y) m' ∧ MI (nx_offer (t, tp) v x y) 0 tp V m' := by
  obtain ⟨d, rfl⟩ : ∃ d, D = d + 1 := ⟨D - 1, by omega⟩
  have hva := hv.1.1
  have hO := hva.o
  have hM := h.1
  have f1 : Fr sNw m (sI m 208 0 0) := Fr.rfl'.i rfl
  have M1 := hM.nw f1
  have hs1 := M1.sk
  obtain ⟨m1, hm1⟩ : ∃ m1, m1 = sI m 208 0 0 := ⟨_, rfl⟩
  rw [← hm1] at f1 M1 hs1
  have t1 : gI m1 208 1 = nI t := by rw [hm1]; exact h.2.1.1
  have t2 : ∀ i, i < t → gI m1 209 i = nI (tp i) := by rw [hm1]; exact h.2.1.2
  have h01 : gI m1 221 0 = 0 := by rw [hm1]; exact h0
  have f2 : Fr sNw m1 (sI m1 208 1 0) := Fr.rfl'.i rfl
  have no : okOff v x y = false → ∀ o, o = yI (-1) (sI m1 208 1 0) → ∃ m', Fr sMx m m' ∧ o = yI (sp_offer (t, tp) v x y) m' ∧ MI (nx_offer (t, tp) v x y) 0 tp V m' := fun q o ho => by
    unfold sp_offer nx_offer
    rw [q, if_neg (by decide), if_neg (by decide)]
    exact ⟨_, (f1.tr f2).nwX, ho, h.z (f1.tr f2) (fun a j q1 q2 => sNw_n (by omega)) (M1.nw f2) (gI_w _ _ _ _)⟩
  rw [Mo_offer_e _ _ _ _ _ kd_208, mI_u, ← hm1, Mo_isPerson_s M1 hs1, br0]
  by_cases z : inN x (nP v) = true
  · rw [if_pos z, Mo_isMinute_s, br0]
    by_cases z2 : inN y 1440 = true
    · have zs : okSp v x y = true := by unfold okSp; rw [z, z2]; rfl
      obtain ⟨q, mn, rfl, rfl, hq, hmn, k1, k2⟩ := okSp_of hva zs
      rw [if_pos z2, mp_o M1]
      by_cases z3 : nO v < 6
      · have ok : okOff v (nI q) (nI mn) = true := by
          unfold okOff
          rw [zs, decide_eq_true z3]; rfl
        obtain ⟨m3, f3, e3, c3, M3⟩ := Mo_lays_s hv hN M1 t1 t2 h01 (x := 24 + nO v) (p := q) (mn := mn) (by omega) (D := d) (by omega)
        obtain ⟨e4, M4⟩ := lyC (k := 5) (n := nO v) (c := 41) hv.2.1.1 M3 rfl rfl
        unfold sp_offer nx_offer
        rw [if_pos ok, if_pos ok, k1, k2, if_pos (by rw [show (6 : Int32) = nI 6 from rfl, n_eq (by omega) (by omega)]; omega), show (24 : Int32) = nI 24 from rfl, nI_add, e3, bI_y, e4]
        have fx : Fr sMx m (sI m3 208 41 (gI m3 208 41 + (if lyA (lyV (t, tp) v) = 0 then 1 else 0))) := (f1.nwX.tr f3).i rfl
        exact ⟨_, fx, rfl, h.z fx (fun a j q1 q2 => sMx_n (by omega)) M4 c3⟩
      · rw [if_neg (by rw [show (6 : Int32) = nI 6 from rfl, n_eq (by omega) (by omega)]; omega), mI_u]
        refine no ?_ _ rfl
        unfold okOff; rw [decide_eq_false z3]; simp
    · rw [if_neg z2, mI_u]
      refine no ?_ _ rfl
      unfold okOff okSp; rw [Bool.eq_false_iff.mpr z2]; simp
  · rw [if_neg z, mI_u]
    refine no ?_ _ rfl
    unfold okOff okSp; rw [Bool.eq_false_iff.mpr z]; simp
