/-! ===== mark, the reference ===== -/
def kC0 : List (Nat × Nat) := rw_ 210 0 3
def kC1 : List (Nat × Nat) := kC0 ++ rw_ 212 0 6
def kC2 : List (Nat × Nat) := kC1 ++ rw_ 213 0 6
def kC3 : List (Nat × Nat) := kC2 ++ rw_ 214 0 6
def kC4 : List (Nat × Nat) := kC3 ++ rw_ 215 0 6
def kC5 : List (Nat × Nat) := kC4 ++ rw_ 216 0 2
def kC6 : List (Nat × Nat) := kC5 ++ rw_ 217 0 2
def kC7 : List (Nat × Nat) := kC6 ++ rw_ 218 0 2
def kC8 : List (Nat × Nat) := kC7 ++ [(208, 37)]
def kC9 : List (Nat × Nat) := kC8 ++ [(208, 40)]
def kC10 : List (Nat × Nat) := kC9 ++ [(208, 41)]
def kC11 : List (Nat × Nat) := kC10 ++ [(208, 42)]
def kC12 : List (Nat × Nat) := kC11 ++ [(208, 43)]
def kC13 : List (Nat × Nat) := kC12 ++ [(208, 44)]
def kC14 : List (Nat × Nat) := kC13 ++ rw_ 237 0 30
def kC15 : List (Nat × Nat) := kC14 ++ rw_ 238 0 30
def kC16 : List (Nat × Nat) := kC15 ++ rw_ 240 0 30
def kC17 : List (Nat × Nat) := kC16 ++ rw_ 243 0 12
def kC18 : List (Nat × Nat) := kC17 ++ rw_ 244 0 12
def kC19 : List (Nat × Nat) := kC18 ++ rw_ 245 0 12
def kC20 : List (Nat × Nat) := kC19 ++ rw_ 246 0 12
def kC21 : List (Nat × Nat) := kC20 ++ rw_ 250 0 4
def kC22 : List (Nat × Nat) := kC21 ++ rw_ 251 0 4
theorem kC0_l : kC0.length = 3 := by decide +kernel
theorem kC1_l : kC1.length = 9 := by decide +kernel
theorem kC2_l : kC2.length = 15 := by decide +kernel
theorem kC3_l : kC3.length = 21 := by decide +kernel
theorem kC4_l : kC4.length = 27 := by decide +kernel
theorem kC5_l : kC5.length = 29 := by decide +kernel
theorem kC6_l : kC6.length = 31 := by decide +kernel
theorem kC7_l : kC7.length = 33 := by decide +kernel
theorem kC8_l : kC8.length = 34 := by decide +kernel
theorem kC9_l : kC9.length = 35 := by decide +kernel
theorem kC10_l : kC10.length = 36 := by decide +kernel
theorem kC11_l : kC11.length = 37 := by decide +kernel
theorem kC12_l : kC12.length = 38 := by decide +kernel
theorem kC13_l : kC13.length = 39 := by decide +kernel
theorem kC14_l : kC14.length = 69 := by decide +kernel
theorem kC15_l : kC15.length = 99 := by decide +kernel
theorem kC16_l : kC16.length = 129 := by decide +kernel
theorem kC17_l : kC17.length = 141 := by decide +kernel
theorem kC18_l : kC18.length = 153 := by decide +kernel
theorem kC19_l : kC19.length = 165 := by decide +kernel
theorem kC20_l : kC20.length = 177 := by decide +kernel
theorem kC21_l : kC21.length = 181 := by decide +kernel
theorem kC22_l : kC22.length = 185 := by decide +kernel
theorem kC_ok : ∀ c ∈ kC22, okC c := by
  unfold okC
  decide +kernel
theorem kC_nd : kC22.Nodup := by decide +kernel
theorem kC21_ok : ∀ c ∈ kC21, okC c := fun c h => kC_ok c (List.mem_append_left _ h)
theorem kC20_ok : ∀ c ∈ kC20, okC c := fun c h => kC21_ok c (List.mem_append_left _ h)
theorem kC19_ok : ∀ c ∈ kC19, okC c := fun c h => kC20_ok c (List.mem_append_left _ h)
theorem kC18_ok : ∀ c ∈ kC18, okC c := fun c h => kC19_ok c (List.mem_append_left _ h)
theorem kC17_ok : ∀ c ∈ kC17, okC c := fun c h => kC18_ok c (List.mem_append_left _ h)
theorem kC16_ok : ∀ c ∈ kC16, okC c := fun c h => kC17_ok c (List.mem_append_left _ h)
theorem kC15_ok : ∀ c ∈ kC15, okC c := fun c h => kC16_ok c (List.mem_append_left _ h)
theorem kC14_ok : ∀ c ∈ kC14, okC c := fun c h => kC15_ok c (List.mem_append_left _ h)
theorem kC13_ok : ∀ c ∈ kC13, okC c := fun c h => kC14_ok c (List.mem_append_left _ h)
theorem kC12_ok : ∀ c ∈ kC12, okC c := fun c h => kC13_ok c (List.mem_append_left _ h)
theorem kC11_ok : ∀ c ∈ kC11, okC c := fun c h => kC12_ok c (List.mem_append_left _ h)
theorem kC10_ok : ∀ c ∈ kC10, okC c := fun c h => kC11_ok c (List.mem_append_left _ h)
theorem kC9_ok : ∀ c ∈ kC9, okC c := fun c h => kC10_ok c (List.mem_append_left _ h)
theorem kC8_ok : ∀ c ∈ kC8, okC c := fun c h => kC9_ok c (List.mem_append_left _ h)
theorem kC7_ok : ∀ c ∈ kC7, okC c := fun c h => kC8_ok c (List.mem_append_left _ h)
theorem kC6_ok : ∀ c ∈ kC6, okC c := fun c h => kC7_ok c (List.mem_append_left _ h)
theorem kC5_ok : ∀ c ∈ kC5, okC c := fun c h => kC6_ok c (List.mem_append_left _ h)
theorem kC4_ok : ∀ c ∈ kC4, okC c := fun c h => kC5_ok c (List.mem_append_left _ h)
theorem kC3_ok : ∀ c ∈ kC3, okC c := fun c h => kC4_ok c (List.mem_append_left _ h)
theorem kC2_ok : ∀ c ∈ kC2, okC c := fun c h => kC3_ok c (List.mem_append_left _ h)
theorem kC1_ok : ∀ c ∈ kC1, okC c := fun c h => kC2_ok c (List.mem_append_left _ h)
theorem kC0_ok : ∀ c ∈ kC0, okC c := fun c h => kC1_ok c (List.mem_append_left _ h)
theorem kC_m {a j : Nat} {q : Nat × Nat} (h : mpI a j = some q) : (a, j) ∈ kC22 := by
  unfold mpI at h
  split at h
  · rename_i e
    rw [e]
    split at h
    · rename_i e2
      rw [e2]; decide +kernel
    · split at h
      · have hh : ∀ j, j < 45 → 40 ≤ j → (208, j) ∈ kC22 := by decide +kernel
        exact hh j (by omega) (by omega)
      · cases h
  · split at h
    · rename_i e
      rw [e.1]
      have hh : ∀ j, j < 3 → (210, j) ∈ kC22 := by decide +kernel
      exact hh j e.2
    · split at h
      · rename_i e
        have hh : ∀ k, k < 7 → ∀ j, j < 6 → (¬ (j < 2 ∨ k ≤ 3)) ∨ (212 + k, j) ∈ kC22 := by decide +kernel
        have h1 := (hh (a - 212) (by omega) j (by omega)).resolve_left (by omega)
        rw [show 212 + (a - 212) = a by omega] at h1
        exact h1
      · split at h
        · rename_i e
          have hh : ∀ j, j < 30 → (237, j) ∈ kC22 ∧ (238, j) ∈ kC22 := by decide +kernel
          rcases e.1 with e1 | e1
          · rw [e1]; exact (hh j e.2).1
          · rw [e1]; exact (hh j e.2).2
        · split at h
          · rename_i e
            rw [e.1]
            have hh : ∀ j, j < 30 → (240, j) ∈ kC22 := by decide +kernel
            exact hh j e.2
          · split at h
            · rename_i e
              have hh : ∀ k, k < 4 → ∀ j, j < 12 → (243 + k, j) ∈ kC22 := by decide +kernel
              have h1 := hh (a - 243) (by omega) j (by omega)
              rw [show 243 + (a - 243) = a by omega] at h1
              exact h1
            · split at h
              · rename_i e
                have hh : ∀ k, k < 2 → ∀ j, j < 4 → (250 + k, j) ∈ kC22 := by decide +kernel
                have h1 := hh (a - 250) (by omega) j (by omega)
                rw [show 250 + (a - 250) = a by omega] at h1
                exact h1
              · cases h
theorem kp_0a {l : List (Nat × Nat)} {b : Nat} {m : eM} (hl : ∀ c ∈ l, okC c) {a j : Nat} (h : okC (a, j)) : gI (kp false l b m) a j = gI m a j := (kp_0 l b m hl).1.1 a j (by
  have a1 : a ≠ 256 := h.1
  have a2 : ¬ (a = 208 ∧ j = 68) := h.2
  simp
  exact ⟨fun q => absurd q a1, fun q q2 => a2 ⟨q, q2⟩⟩)
theorem kp_1a : ∀ {l : List (Nat × Nat)} {b : Nat} {m : eM}, (∀ c ∈ l, okC c) → ∀ j, gI (kp true l b m) 256 j = gI m 256 j
  | [], b, m, _, j => rfl
  | c :: l, b, m, hl, j => by
    have hc := hl c List.mem_cons_self
    refine (kp_1a (l := l) (fun x hx => hl x (List.mem_cons_of_mem _ hx)) j).trans ?_
    show gI (sI (sI m 208 68 (nI (b + 1))) c.1 c.2 (gI m 256 b)) 256 j = _
    rw [gI_sI, if_neg (fun e => hc.1 e.1.symm), gI_sI, if_neg (by omega)]
theorem kp_L {B : Bool} : ∀ {l : List (Nat × Nat)} {b : Nat} {m : eM} (a j : Nat), gL (kp B l b m) a j = gL m a j
  | [], b, m, a, j => rfl
  | c :: l, b, m, a, j => by
    refine (kp_L (l := l) a j).trans ?_
    cases B <;> rfl
theorem kq_I {B : Bool} {a : Nat} : ∀ {k i b : Nat} {m : eM} (c j : Nat), gI (kq B a k i b m) c j = gI m c j
  | 0, i, b, m, c, j => rfl
  | k + 1, i, b, m, c, j => by
    refine (kq_I (k := k) c j).trans ?_
    cases B <;> rfl
/-- so far kept, or got back -/
def KS (B : Bool) (b : Nat) (m0 : eM) (L : List (Nat × Nat)) (n : Nat) (m : eM) : Prop := m = kp B L b m0 ∧ Sk m ∧ gI m 208 68 = nI (b + n) ∧ n = L.length
theorem KS.nx {B : Bool} {b : Nat} {m0 : eM} {L : List (Nat × Nat)} {n : Nat} {m : eM} (h : KS B b m0 L n m) {t : List (Nat × Nat)} (ht : ∀ c ∈ t, okC c) : KS B b m0 (L ++ t) (n + t.length) (kp B t (b + n) m) := by
  obtain ⟨h1, h2, h3, h4⟩ := h
  refine ⟨?_, kp_k h2, ?_, by rw [List.length_append, h4]⟩
  · rw [kp_app, ← h1, h4]
  · rw [kp_c ht h3, Nat.add_assoc]
theorem rw_ok {a i k : Nat} (ha : 208 < a) (ha2 : a ≠ 256) : ∀ c ∈ rw_ a i k, okC c := fun c h => by
  have := rw_i h
  exact ⟨by omega, by omega⟩
theorem KS.row {B : Bool} {b : Nat} {m0 : eM} {L : List (Nat × Nat)} {n0 : Nat} {m : eM} (h : KS B b m0 L n0 m) {D : Nat} (hD : 1 ≤ D) {a K : Nat} (hk : kk a = (20, K)) (ha : 208 < a) (ha2 : a ≠ 256) (hL : K ≤ 100000) {n : Nat} (hn : n ≤ K) (hb : b + n0 + n ≤ 1200) : ∃ m', (∀ k, bV (Mo_keepsRow D 208 a (nI n) (bb B) m) k = k m') ∧ KS B b m0 (L ++ rw_ a 0 n) (n0 + n) m' := by
  have h1 := h.nx (t := rw_ a 0 n) (rw_ok ha ha2)
  rw [rw_l] at h1
  refine ⟨_, fun k => ?_, h1⟩
  rw [Mo_keepsRow_s hD hk ha ha2 hL hn B h.2.1 h.2.2.1 hb, bV_y]
theorem KS.fld {B : Bool} {b : Nat} {m0 : eM} {L : List (Nat × Nat)} {n0 : Nat} {m : eM} (h : KS B b m0 L n0 m) (d j : Nat) (hj : j ≠ 68) (hb : b + n0 < 1200) : ∃ m', (∀ k, (bI (Mo_keeps d 208 (gI m 208 j) (bb B) m) fun x m1 => mI m1 208 j x k) = k m') ∧ KS B b m0 (L ++ [(208, j)]) (n0 + 1) m' := by
  have h1 := h.nx (t := [(208, j)]) (fun c hc => by
    rw [List.mem_singleton] at hc
    rw [hc]
    exact ⟨(by decide : (208 : Nat) ≠ 256), fun q => hj q.2⟩)
  exact ⟨_, fun k => Mo_keeps_f h.2.1 d j B h.2.2.1 hb k, h1⟩
theorem KS.flg {B : Bool} {b : Nat} {m0 : eM} {L : List (Nat × Nat)} {n0 : Nat} {m : eM} (h : KS B b m0 L n0 m) (hL : ∀ c ∈ L, okC c) (d : Nat) {a j : Nat} (ha : 208 < a) (ha2 : a ≠ 256) (hb : b + n0 < 1200) (h0 : B = false → gI m0 a j = 0 ∨ gI m0 a j = 1) (h1 : B = true → gI m0 256 (b + n0) = 0 ∨ gI m0 256 (b + n0) = 1) : ∃ m', (∀ k : eM → oX, (if gI m a j = 0 then (bI (Mo_keeps d 208 0 (bb B) m) fun x m1 => if ¬ x = 1 then k (sI m1 a j ((0 : Int32) &&& 1)) else k (sI m1 a j ((1 : Int32) &&& 1))) else (bI (Mo_keeps d 208 1 (bb B) m) fun x m1 => if ¬ x = 1 then k (sI m1 a j ((0 : Int32) &&& 1)) else k (sI m1 a j ((1 : Int32) &&& 1)))) = k m') ∧ KS B b m0 (L ++ [(a, j)]) (n0 + 1) m' := by
  have hc : okC (a, j) := ⟨ha2, fun q => by have := q.1; omega⟩
  have h2 := h.nx (t := [(a, j)]) (fun c hc' => by
    rw [List.mem_singleton] at hc'
    rw [hc']
    exact hc)
  refine ⟨_, fun k => keeps_b h.2.1 d a j B h.2.2.1 hb (fun q => ?_) (fun q => ?_) k, h2⟩
  · have e : gI m a j = gI m0 a j := by rw [h.1, q]; exact kp_0a hL hc
    rw [e]; exact h0 q
  · have e : gI m 256 (b + n0) = gI m0 256 (b + n0) := by rw [h.1, q]; exact kp_1a hL _
    rw [e]; exact h1 q
theorem Mo_mark_268_30 {B : Bool} {b k : Nat} (hk : k < 4) (hb : b = 300 * k) {m0 m : eM} (d : Nat) (hs : KS B b m0 kC16 129 m) : Mo_mark_268 (d + 2) 208 (nI k) (bb B) (nI 30) m = yI 1 (kq B 219 1 0 (100 * k + 48) (kq B 239 30 0 (100 * k + 18) (kq B 211 18 0 (100 * k) (kp B kC22 b m0)))) := by
  have s16 := hs
  obtain ⟨m17, e17, s17⟩ := s16.row (D := d + 1) (by omega) kk_243 (by decide) (by decide) (by decide) (n := 12) (by decide) (by omega)
  obtain ⟨m18, e18, s18⟩ := s17.row (D := d + 1) (by omega) kk_244 (by decide) (by decide) (by decide) (n := 12) (by decide) (by omega)
  obtain ⟨m19, e19, s19⟩ := s18.row (D := d + 1) (by omega) kk_245 (by decide) (by decide) (by decide) (n := 12) (by decide) (by omega)
  obtain ⟨m20, e20, s20⟩ := s19.row (D := d + 1) (by omega) kk_246 (by decide) (by decide) (by decide) (n := 12) (by decide) (by omega)
  obtain ⟨m21, e21, s21⟩ := s20.row (D := d + 1) (by omega) kk_250 (by decide) (by decide) (by decide) (n := 4) (by decide) (by omega)
  obtain ⟨m22, e22, s22⟩ := s21.row (D := d + 1) (by omega) kk_251 (by decide) (by decide) (by decide) (n := 4) (by decide) (by omega)
  rw [Mo_mark_268_e _ _ _ _ _ _ kd_208, if_pos (by rw [show (30 : Int32) = nI 30 from rfl, n_le (by omega) (by omega)]; omega), rf_208_52 s16.2.1, bR_s, show (12 : Int32) = nI 12 from rfl, e17, rf_208_53 s17.2.1, bR_s, e18, rf_208_54 s18.2.1, bR_s, e19, rf_208_55 s19.2.1, bR_s, e20, rf_208_59 s20.2.1, bR_s, show (4 : Int32) = nI 4 from rfl, e21, rf_208_60 s21.2.1, bR_s, e22, l_100, nI_mul, rf_208_11 s22.2.1, bR_s, l_18, Mo_keepsLongs_s _ kk_211 (by decide) (by decide) (by decide) B (by omega) s22.2.1, bV_y]
  have t1 : Sk (kq B 211 18 0 (100 * k) m22) := kq_k s22.2.1
  rw [rf_208_47 t1, bR_s, show (30 : Int32) = nI 30 from rfl, nI_add, Mo_keepsLongs_s _ kk_239 (by decide) (by decide) (by decide) B (by omega) t1, bV_y]
  have t2 : Sk (kq B 239 30 0 (100 * k + 18) (kq B 211 18 0 (100 * k) m22)) := kq_k t1
  rw [rf_208_19 t2, bR_s, l_48, nI_add, show (1 : Int32) = nI 1 from rfl, Mo_keepsLongs_s _ kk_219 (by decide) (by decide) (by decide) B (by omega) t2, bV_y, s22.1]
  rfl
theorem rw_snoc (a : Nat) : ∀ k i, rw_ a i (k + 1) = rw_ a i k ++ [(a, i + k)]
  | 0, i => rfl
  | k + 1, i => by
    show (a, i) :: rw_ a (i + 1) (k + 1) = (a, i) :: (rw_ a (i + 1) k ++ [(a, i + (k + 1))])
    rw [rw_snoc a k (i + 1), show i + 1 + k = i + (k + 1) by omega]
theorem Mo_mark_268_s {B : Bool} {b k : Nat} (hk : k < 4) (hb : b = 300 * k) {m0 : eM} (d : Nat) (h0 : B = false → ∀ j, j < 30 → gI m0 240 j = 0 ∨ gI m0 240 j = 1) (h1 : B = true → ∀ j, j < 30 → gI m0 256 (b + (99 + j)) = 0 ∨ gI m0 256 (b + (99 + j)) = 1) : ∀ j i m, i + j = 30 → KS B b m0 (kC15 ++ rw_ 240 0 i) (99 + i) m → Mo_mark_268 (d + 2) 208 (nI k) (bb B) (nI i) m = yI 1 (kq B 219 1 0 (100 * k + 48) (kq B 239 30 0 (100 * k + 18) (kq B 211 18 0 (100 * k) (kp B kC22 b m0))))
  | 0, i, m, e, hs => by
    have : i = 30 := by omega
    subst this
    exact Mo_mark_268_30 hk hb d hs
  | j + 1, i, m, e, hs => by
    have hL : ∀ c ∈ kC15 ++ rw_ 240 0 i, okC c := fun c hc => by
      rcases List.mem_append.mp hc with x | x
      · exact kC15_ok c x
      · exact rw_ok (by decide) (by decide) c x
    obtain ⟨m1, e1, s1⟩ := hs.flg hL (d + 1) (a := 240) (j := i) (by decide) (by decide) (by omega) (fun q => h0 q i (by omega)) (fun q => h1 q i (by omega))
    have hw : ∀ (m : eM) (o : oX), gw m 240 23 (nI i) o = o := fun m o => gw_240 (by omega)
    rw [Mo_mark_268_e _ _ _ _ _ _ kd_208, if_neg (by rw [show (30 : Int32) = nI 30 from rfl, n_le (by omega) (by omega)]; omega), rf_208_48 hs.2.1, bR_s, bR_s, ga_240 (by omega), n_cl (by omega), nI_1]
    simp only [hw, mI_u]
    refine (e1 (fun m => Mo_mark_268 (d + 2) 208 (nI k) (bb B) (nI (i + 1)) m)).trans ?_
    refine Mo_mark_268_s hk hb d h0 h1 j (i + 1) m1 (by omega) ?_
    rw [rw_snoc, Nat.zero_add, ← List.append_assoc, ← Nat.add_assoc]
    exact s1
theorem Mo_mark_121_2 {B : Bool} {b k : Nat} (hk : k < 4) (hb : b = 300 * k) {m0 m : eM} (d : Nat) (h0 : B = false → ∀ j, j < 30 → gI m0 240 j = 0 ∨ gI m0 240 j = 1) (h1 : B = true → ∀ j, j < 30 → gI m0 256 (b + (99 + j)) = 0 ∨ gI m0 256 (b + (99 + j)) = 1) (hs : KS B b m0 kC7 33 m) : Mo_mark_121 (d + 2) 208 (nI k) (bb B) (nI 2) m = yI 1 (kq B 219 1 0 (100 * k + 48) (kq B 239 30 0 (100 * k + 18) (kq B 211 18 0 (100 * k) (kp B kC22 b m0)))) := by
  have s7 := hs
  obtain ⟨m8, e8, s8⟩ := s7.fld (d + 1) 37 (by decide) (by omega)
  obtain ⟨m9, e9, s9⟩ := s8.fld (d + 1) 40 (by decide) (by omega)
  obtain ⟨m10, e10, s10⟩ := s9.fld (d + 1) 41 (by decide) (by omega)
  obtain ⟨m11, e11, s11⟩ := s10.fld (d + 1) 42 (by decide) (by omega)
  obtain ⟨m12, e12, s12⟩ := s11.fld (d + 1) 43 (by decide) (by omega)
  obtain ⟨m13, e13, s13⟩ := s12.fld (d + 1) 44 (by decide) (by omega)
  obtain ⟨m14, e14, s14⟩ := s13.row (D := d + 1) (by omega) kk_237 (by decide) (by decide) (by decide) (n := 30) (by decide) (by omega)
  obtain ⟨m15, e15, s15⟩ := s14.row (D := d + 1) (by omega) kk_238 (by decide) (by decide) (by decide) (n := 30) (by decide) (by omega)
  rw [Mo_mark_121_e _ _ _ _ _ _ kd_208, if_pos (by rw [show (2 : Int32) = nI 2 from rfl, n_le (by omega) (by omega)]; omega), e8, e9, e10, e11, e12, e13, rf_208_45 s13.2.1, bR_s, show (30 : Int32) = nI 30 from rfl, e14, rf_208_46 s14.2.1, bR_s, e15]
  exact Mo_mark_268_s hk hb d h0 h1 30 0 m15 rfl (by
    show KS B b m0 (kC15 ++ []) (99 + 0) m15
    rw [List.append_nil]
    exact s15)
theorem Mo_mark_29_s {B : Bool} {k : Nat} (hk : k < 4) {m : eM} (hs : Sk m) (d : Nat) (g0 : B = false → ∀ j, j < 2 → gI m 218 j = 0 ∨ gI m 218 j = 1) (g1 : B = true → ∀ j, j < 2 → gI m 256 (300 * k + (31 + j)) = 0 ∨ gI m 256 (300 * k + (31 + j)) = 1) (h0 : B = false → ∀ j, j < 30 → gI m 240 j = 0 ∨ gI m 240 j = 1) (h1 : B = true → ∀ j, j < 30 → gI m 256 (300 * k + (99 + j)) = 0 ∨ gI m 256 (300 * k + (99 + j)) = 1) : Mo_mark_29 (d + 2) 208 (nI k) (bb B) m = yI 1 (kq B 219 1 0 (100 * k + 48) (kq B 239 30 0 (100 * k + 18) (kq B 211 18 0 (100 * k) (kp B kC22 (300 * k) (sI (sI m 255 k 1) 208 68 (nI (300 * k))))))) := by
  obtain ⟨m0, hm0⟩ : ∃ m0, m0 = sI (sI m 255 k 1) 208 68 (nI (300 * k)) := ⟨_, rfl⟩
  have hs0 : Sk m0 := by rw [hm0]; exact hs
  have z : KS B (300 * k) m0 [] 0 m0 := ⟨rfl, hs0, by rw [hm0, gI_w]; rfl, rfl⟩
  have q218 : ∀ j, gI m0 218 j = gI m 218 j := fun j => by rw [hm0, gI_sI, if_neg (by omega), gI_sI, if_neg (by omega)]
  have q240 : ∀ j, gI m0 240 j = gI m 240 j := fun j => by rw [hm0, gI_sI, if_neg (by omega), gI_sI, if_neg (by omega)]
  have q256 : ∀ j, gI m0 256 j = gI m 256 j := fun j => by rw [hm0, gI_sI, if_neg (by omega), gI_sI, if_neg (by omega)]
  obtain ⟨m1, e0, s0⟩ := z.row (D := d + 1) (by omega) kk_210 (by decide) (by decide) (by decide) (n := 3) (by decide) (by omega)
  obtain ⟨m2, e1, s1⟩ := s0.row (D := d + 1) (by omega) kk_212 (by decide) (by decide) (by decide) (n := 6) (by decide) (by omega)
  obtain ⟨m3, e2, s2⟩ := s1.row (D := d + 1) (by omega) kk_213 (by decide) (by decide) (by decide) (n := 6) (by decide) (by omega)
  obtain ⟨m4, e3, s3⟩ := s2.row (D := d + 1) (by omega) kk_214 (by decide) (by decide) (by decide) (n := 6) (by decide) (by omega)
  obtain ⟨m5, e4, s4⟩ := s3.row (D := d + 1) (by omega) kk_215 (by decide) (by decide) (by decide) (n := 6) (by decide) (by omega)
  obtain ⟨m6, e5, s5⟩ := s4.row (D := d + 1) (by omega) kk_216 (by decide) (by decide) (by decide) (n := 2) (by decide) (by omega)
  obtain ⟨m7, e6, s6⟩ := s5.row (D := d + 1) (by omega) kk_217 (by decide) (by decide) (by decide) (n := 2) (by decide) (by omega)
  obtain ⟨n1, x1, y1⟩ := s6.flg kC6_ok (d + 1) (a := 218) (j := 0) (by decide) (by decide) (by omega) (fun q => by rw [q218]; exact g0 q 0 (by decide)) (fun q => by rw [q256]; exact g1 q 0 (by decide))
  have ok2 : ∀ c ∈ kC6 ++ [(218, 0)], okC c := fun c hc => by
    rcases List.mem_append.mp hc with x | x
    · exact kC6_ok c x
    · rw [List.mem_singleton.mp x]; exact ⟨(by decide : (218 : Nat) ≠ 256), fun q => absurd q.1 (by decide : ¬ (218 : Nat) = 208)⟩
  obtain ⟨n2, x2, y2⟩ := y1.flg ok2 (d + 1) (a := 218) (j := 1) (by decide) (by decide) (by omega) (fun q => by rw [q218]; exact g0 q 1 (by decide)) (fun q => by rw [q256]; exact g1 q 1 (by decide))
  rw [List.append_assoc] at y2
  have hw : ∀ j, j < 2 → ∀ (m : eM) (o : oX), gw m 218 23 (nI j) o = o := fun j hj m o => gw_218 (by omega)
  rw [Mo_mark_29_e _ _ _ _ _ kd_208, rf_208_65 hs, bR_s, gw_255 hk, mI_u, mI_u, n_cl (by omega), l_300, nI_mul, show ((1 : Int32) &&& 1) = 1 from by decide, ← hm0, rf_208_10 hs0, bR_s, show (3 : Int32) = nI 3 from rfl, e0, rf_208_12 s0.2.1, bR_s, show (6 : Int32) = nI 6 from rfl, e1, rf_208_13 s1.2.1, bR_s, e2, rf_208_14 s2.2.1, bR_s, e3, rf_208_15 s3.2.1, bR_s, e4, rf_208_16 s4.2.1, bR_s, show (2 : Int32) = nI 2 from rfl, e5, rf_208_17 s5.2.1, bR_s, e6, show Mo_mark_121 (d + 2) 208 (nI k) (bb B) 0 m7 = Mo_mark_121 (d + 2) 208 (nI k) (bb B) (nI 0) m7 from rfl, Mo_mark_121_e _ _ _ _ _ _ kd_208, if_neg (by rw [show (2 : Int32) = nI 2 from rfl, n_le (by omega) (by omega)]; omega), rf_208_18 s6.2.1, bR_s, bR_s, ga_218 (by decide), n_cl (by omega), nI_1]
  simp only [hw 0 (by decide), mI_u]
  refine (x1 (fun m => Mo_mark_121 (d + 2) 208 (nI k) (bb B) (nI (0 + 1)) m)).trans ?_
  rw [Mo_mark_121_e _ _ _ _ _ _ kd_208, if_neg (by rw [show (2 : Int32) = nI 2 from rfl, n_le (by omega) (by omega)]; omega), rf_208_18 y1.2.1, bR_s, bR_s, ga_218 (by decide), n_cl (by omega), nI_1]
  simp only [hw (0 + 1) (by decide), mI_u]
  refine (x2 (fun m => Mo_mark_121 (d + 2) 208 (nI k) (bb B) (nI (0 + 1 + 1)) m)).trans ?_
  exact Mo_mark_121_2 hk rfl d (fun q j hj => by rw [q240]; exact h0 q j hj) (fun q j hj => by rw [q256]; exact h1 q j hj) y2
