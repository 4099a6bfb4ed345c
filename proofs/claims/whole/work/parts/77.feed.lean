/-! ===== feed ===== -/
theorem lN_i32 {n : Nat} : (lN n).toInt32 = nI n := by
  refine Int32.toBitVec_inj.mp (BitVec.eq_of_toNat_eq ?_)
  rw [Int64.toBitVec_toInt32, BitVec.signExtend_eq_setWidth_of_le _ (by decide), BitVec.toNat_setWidth]
  show (BitVec.ofNat 64 n).toNat % 2 ^ 32 = (BitVec.ofNat 32 n).toNat
  rw [BitVec.toNat_ofNat, BitVec.toNat_ofNat]
  omega
def byt (n s : Nat) : Nat := n / 2 ^ s % 256
theorem byt_lt (n s : Nat) : byt n s < 256 := Nat.mod_lt _ (by decide)
theorem byt_s {n s : Nat} (hn : n < 2 ^ 64) (hs : s < 64) : ((((lN n).toUInt64 >>> ((nI s).toInt64.toUInt64 &&& Int64.toUInt64 63)).toInt64) &&& (255 : Int64)).toInt32 = nI (byt n s) := by
  rw [ushN hn hs, show (255 : Int64) = lN 255 from rfl, landN, lN_i32, show (255 : Nat) = 2 ^ 8 - 1 from rfl, Nat.and_two_pow_sub_one_eq_mod]
  rfl
theorem chr_1 : ∀ b, b < 256 → ((nI b).toUInt32 % 65536).toInt32 = nI b := by decide +kernel
theorem chr_2 : ∀ b, b < 256 → (nI b).toUInt32.toUInt16.toUInt32.toInt32 = nI b := by decide +kernel
/-- a sign that the tape takes -/
def okb (b : Nat) : Bool := decide (b = 10) || (decide (32 ≤ b) && decide (b ≤ 126))
theorem okb_i {b : Nat} : okb b = true ↔ b = 10 ∨ 32 ≤ b ∧ b ≤ 126 := by
  unfold okb
  rw [Bool.or_eq_true, Bool.and_eq_true, decide_eq_true_iff, decide_eq_true_iff, decide_eq_true_iff]
abbrev eTp : Type := Nat × (Nat → Nat)
def fdS (s : eTp) (b : Nat) : eTp := if s.1 < 1000 ∧ okb b = true then (s.1 + 1, fun i => if i = s.1 then b else s.2 i) else s
def fd8 (n : Nat) : Nat → eTp → eTp
  | 0, s => s
  | r + 1, s => fd8 n r (fdS s (byt n (8 * r)))
/-- a tape in cell c, array a -/
def TpM (c a : Nat) (s : eTp) (m : eM) : Prop := gI m c 1 = nI s.1 ∧ s.1 ≤ 1000 ∧ (∀ i, i < s.1 → gI m a i = nI (s.2 i)) ∧ ∀ i, i < s.1 → s.2 i < 128
theorem TpM.ad {c a : Nat} (hca : c ≠ a) {s : eTp} {m : eM} (h : TpM c a s m) {b : Nat} (hs : s.1 < 1000) (hb : okb b = true) : TpM c a (fdS s b) (sI (sI m a s.1 (nI b)) c 1 (nI (s.1 + 1))) := by
  unfold fdS
  rw [if_pos ⟨hs, hb⟩]
  refine ⟨gI_w _ _ _ _, hs, fun i hi => ?_, fun i hi => ?_⟩
  · have hi : i < s.1 + 1 := hi
    show gI _ a i = nI (if i = s.1 then b else s.2 i)
    rw [gI_sI, if_neg (fun q => hca q.1.symm), gI_sI]
    by_cases y : i = s.1
    · rw [if_pos ⟨rfl, y⟩, if_pos y]
    · rw [if_neg (fun q => y q.2), if_neg y]; exact h.2.2.1 i (by omega)
  · have hi : i < s.1 + 1 := hi
    show (if i = s.1 then b else s.2 i) < 128
    by_cases y : i = s.1
    · rw [if_pos y]
      have := okb_i.mp hb
      omega
    · rw [if_neg y]; exact h.2.2.2 i (by omega)
theorem fdS_no {s : eTp} {b : Nat} (h : ¬ (s.1 < 1000 ∧ okb b = true)) : fdS s b = s := if_neg h
/-! the class -/
theorem n_m8 (r : Nat) : nI (8 * (r + 1)) + (-8) = nI (8 * r) := by
  rw [show 8 * (r + 1) = 8 * r + 8 by omega, ← nI_add, Int32.add_assoc, show nI 8 + (-8) = 0 by decide, Int32.add_zero]
def sT45 (a _ : Nat) : Bool := a == 4 || a == 5
theorem Ta_put_3_s (d : Nat) {n : Nat} (hn : n < 2 ^ 64) : ∀ r s w4 w5 m, r ≤ 8 → Sk m → TpM 4 5 s m → ∃ m', Fr sT45 m m' ∧ Ta_put_3 d 4 (lN n) (nI (8 * r) + (-8)) w4 w5 m = yV m' ∧ TpM 4 5 (fd8 n r s) m'
  | 0, s, w4, w5, m, hr, hs, h => by
    refine ⟨m, Fr.rfl', ?_, h⟩
    rw [Ta_put_3_e _ _ _ _ _ _ _ kd_4, if_pos (by decide)]
  | r + 1, s, w4, w5, m, hr, hs, h => by
    have hb := byt_lt n (8 * r)
    have ht := h.2.1
    have key : ∀ p0 : Int32, p0 = bb (okb (byt n (8 * r))) → ∃ m', Fr sT45 m m' ∧ Ta_put_44 d 4 (lN n) (nI (8 * r)) (nI (byt n (8 * r))) w5 p0 m = yV m' ∧ TpM 4 5 (fd8 n r (fdS s (byt n (8 * r)))) m' := fun p0 hp => by
      subst hp
      rw [Ta_put_44_e _ _ _ _ _ _ _ _ kd_4]
      by_cases z : okb (byt n (8 * r)) = true
      · rw [if_neg (by rw [z]; decide), h.1, if_neg (nI_pos (by omega)), rf_4_0 hs, bR_s, gl_5, al_5, toI]
        by_cases y : s.1 < 1000
        · rw [if_neg (by rw [n_le (by omega) (by omega)]; omega), bR_s, gw_5 y, mI_u, n_cl (by omega), chr_2 _ hb, gI_sI, if_neg (by omega), h.1, mI_u, nI_1]
          have f1 : Fr sT45 m (sI (sI m 5 s.1 (nI (byt n (8 * r)))) 4 1 (nI (s.1 + 1))) := (Fr.rfl'.i rfl).i rfl
          obtain ⟨m', f2, e2, h2⟩ := Ta_put_3_s d hn r _ (.int (nI (byt n (8 * r)))) (.int (bb (okb (byt n (8 * r))))) _ (by omega) (f1.sk hs) (h.ad (by decide) y z)
          exact ⟨m', f1.tr f2, e2, h2⟩
        · rw [if_pos (by rw [n_le (by omega) (by omega)]; omega), fdS_no (fun q => y q.1)]
          exact Ta_put_3_s d hn r s _ _ m (by omega) hs h
      · rw [if_pos (by rw [Bool.eq_false_iff.mpr z]; rfl), fdS_no (fun q => z q.2)]
        exact Ta_put_3_s d hn r s _ _ m (by omega) hs h
    rw [Ta_put_3_e _ _ _ _ _ _ _ kd_4, n_m8, if_neg (nI_pos (by omega)), byt_s hn (by omega), chr_1 _ hb, lI_u]
    show ∃ m', Fr sT45 m m' ∧ _ = yV m' ∧ TpM 4 5 (fd8 n r (fdS s (byt n (8 * r)))) m'
    by_cases z1 : byt n (8 * r) = 10
    · rw [if_pos (by rw [z1]; rfl)]
      refine key 1 ?_
      rw [okb_i.mpr (Or.inl z1)]; rfl
    · rw [if_neg (by rw [show (10 : Int32) = nI 10 from rfl, n_eq (by omega) (by omega)]; exact z1)]
      by_cases z2 : byt n (8 * r) < 32
      · rw [if_pos (by rw [show (32 : Int32) = nI 32 from rfl, n_lt (by omega) (by omega)]; exact z2)]
        refine key 0 ?_
        rw [show okb (byt n (8 * r)) = false from Bool.eq_false_iff.mpr fun q => by have := okb_i.mp q; omega]; rfl
      · rw [if_neg (by rw [show (32 : Int32) = nI 32 from rfl, n_lt (by omega) (by omega)]; exact z2)]
        by_cases z3 : 126 < byt n (8 * r)
        · rw [if_pos (by rw [show (126 : Int32) = nI 126 from rfl, n_lt (by omega) (by omega)]; exact z3)]
          refine key 0 ?_
          rw [show okb (byt n (8 * r)) = false from Bool.eq_false_iff.mpr fun q => by have := okb_i.mp q; omega]; rfl
        · rw [if_neg (by rw [show (126 : Int32) = nI 126 from rfl, n_lt (by omega) (by omega)]; exact z3)]
          refine key 1 ?_
          rw [okb_i.mpr (Or.inr (by omega))]; rfl
theorem Ta_put_s (d : Nat) {n : Nat} (hn : n < 2 ^ 64) {s : eTp} {m : eM} (hs : Sk m) (h : TpM 4 5 s m) : ∃ m', Fr sT45 m m' ∧ Ta_put d 4 (lN n) m = yV m' ∧ TpM 4 5 (fd8 n 8 s) m' := by
  rw [Ta_put_e _ _ _ _ kd_4]
  exact Ta_put_3_s d hn 8 s eU eU m (Nat.le_refl _) hs h
def fd24 (a b c : Nat) (s : eTp) : eTp := fd8 c 8 (fd8 b 8 (fd8 a 8 s))
theorem LC_feed_s {D : Nat} (hD : 1 ≤ D) {a b c : Nat} (ha : a < 2 ^ 64) (hb : b < 2 ^ 64) (hc : c < 2 ^ 64) {s : eTp} {m : eM} (hs : Sk m) (h : TpM 4 5 s m) : ∃ m', Fr sT45 m m' ∧ LC_feed D 3 (lN a) (lN b) (lN c) m = yI (nI (fd24 a b c s).1) m' ∧ TpM 4 5 (fd24 a b c s) m' := by
  obtain ⟨d, rfl⟩ : ∃ d, D = d + 1 := ⟨D - 1, by omega⟩
  obtain ⟨m1, f1, e1, h1⟩ := Ta_put_s d ha hs h
  have hs1 := f1.sk hs
  obtain ⟨m2, f2, e2, h2⟩ := Ta_put_s d hb hs1 h1
  have hs2 := f2.sk hs1
  obtain ⟨m3, f3, e3, h3⟩ := Ta_put_s d hc hs2 h2
  have hs3 := f3.sk hs2
  have g4 : ∀ o, gd 4 8 o = o := fun o => gd_y kd_4
  refine ⟨m3, (f1.tr f2).tr f3, ?_, h3⟩
  rw [LC_feed_e _ _ _ _ _ _ kd_3, rf_3_0 hs, bR_s, g4, e1, bV_y, rf_3_0 hs1, bR_s, g4, e2, bV_y, rf_3_0 hs2, bR_s, g4, e3, bV_y, rf_3_0 hs3, bR_s, g4, Ta_length_e _ _ _ kd_4, bI_y, h3.1]
  rfl
/-! the reference -/
theorem sh_m : ∀ i, i < 24 → (56 : Int32) - 8 * (nI i &&& 7) = nI (8 * (7 - i % 8)) := by decide +kernel
def sT28 (a j : Nat) : Bool := a == 209 || (a == 208 && j == 1)
theorem Mo_feed_39_s (d : Nat) (y1 y3 y5 : Int64) {n : Nat} (hn : n < 2 ^ 64) {i : Nat} (hi : i < 24) (w8 w10 : Value) {s : eTp} {m : eM} (hs : Sk m) (h : TpM 208 209 s m) : ∃ m' w8' w10', Fr sT28 m m' ∧ Mo_feed_39 d 208 y1 y3 y5 (nI i) w8 w10 (lN n) m = Mo_feed_8 d 208 y1 y3 y5 (nI (i + 1)) w8' w10' m' ∧ TpM 208 209 (fdS s (byt n (8 * (7 - i % 8)))) m' := by
  have hb := byt_lt n (8 * (7 - i % 8))
  have ht := h.2.1
  rw [Mo_feed_39_e _ _ _ _ _ _ _ _ _ _ kd_208, sh_m i hi, byt_s hn (by omega), lI_u, h.1, nI_1]
  have no : ¬ (s.1 < 1000 ∧ okb (byt n (8 * (7 - i % 8))) = true) → ∃ m' w8' w10', Fr sT28 m m' ∧ Mo_feed_8 d 208 y1 y3 y5 (nI (i + 1)) (.long (lN n)) (.int (nI (byt n (8 * (7 - i % 8))))) m = Mo_feed_8 d 208 y1 y3 y5 (nI (i + 1)) w8' w10' m' ∧ TpM 208 209 (fdS s (byt n (8 * (7 - i % 8)))) m' := fun q => by
    rw [fdS_no q]
    exact ⟨m, _, _, Fr.rfl', rfl, h⟩
  by_cases z : s.1 < 1000
  · have ad : okb (byt n (8 * (7 - i % 8))) = true → ∃ m' w8' w10', Fr sT28 m m' ∧ (bR (gR m 208 2) fun r2 => gw m r2 20 (nI s.1) (mI m r2 (nI s.1).toNatClampNeg (nI (byt n (8 * (7 - i % 8)))) fun m3 => mI m3 208 1 ((gI m3 208 1) + (1 : Int32)) fun m4 => Mo_feed_8 d 208 y1 y3 y5 (nI (i + 1)) (.long (lN n)) (.int (nI (byt n (8 * (7 - i % 8))))) m4)) = Mo_feed_8 d 208 y1 y3 y5 (nI (i + 1)) w8' w10' m' ∧ TpM 208 209 (fdS s (byt n (8 * (7 - i % 8)))) m' := fun q => by
      rw [rf_208_2 hs, bR_s, gw_209 z, mI_u, n_cl (by omega), gI_sI, if_neg (by omega), h.1, mI_u, nI_1]
      exact ⟨_, _, _, (Fr.rfl'.i rfl).i rfl, rfl, h.ad (by decide) z q⟩
    rw [if_neg (by rw [show (1000 : Int32) = nI 1000 from rfl, n_le (by omega) (by omega)]; omega)]
    by_cases z1 : byt n (8 * (7 - i % 8)) = 10
    · rw [if_pos (by rw [z1]; rfl)]
      exact ad (okb_i.mpr (Or.inl z1))
    · rw [if_neg (by rw [show (10 : Int32) = nI 10 from rfl, n_eq (by omega) (by omega)]; exact z1)]
      by_cases z2 : byt n (8 * (7 - i % 8)) < 32
      · rw [if_pos (by rw [show (32 : Int32) = nI 32 from rfl, n_lt (by omega) (by omega)]; exact z2)]
        exact no fun q => by have := okb_i.mp q.2; omega
      · rw [if_neg (by rw [show (32 : Int32) = nI 32 from rfl, n_lt (by omega) (by omega)]; exact z2)]
        by_cases z3 : 126 < byt n (8 * (7 - i % 8))
        · rw [if_pos (by rw [show (126 : Int32) = nI 126 from rfl, n_lt (by omega) (by omega)]; exact z3)]
          exact no fun q => by have := okb_i.mp q.2; omega
        · rw [if_neg (by rw [show (126 : Int32) = nI 126 from rfl, n_lt (by omega) (by omega)]; exact z3)]
          exact ad (okb_i.mpr (Or.inr (by omega)))
  · rw [if_pos (by rw [show (1000 : Int32) = nI 1000 from rfl, n_le (by omega) (by omega)]; omega)]
    exact no fun q => z q.1
theorem Mo_feed_seg (d : Nat) (y1 y3 y5 : Int64) {n b : Nat} (hn : n < 2 ^ 64) (hb : b < 17) (hb8 : b % 8 = 0) (hsel : ∀ i, b ≤ i → i < b + 8 → ∀ w8 w10 m, Mo_feed_8 d 208 y1 y3 y5 (nI i) w8 w10 m = Mo_feed_39 d 208 y1 y3 y5 (nI i) w8 w10 (lN n) m) : ∀ r i w8 w10 s m, i + r = b + 8 → r ≤ 8 → Sk m → TpM 208 209 s m → ∃ m' w8' w10', Fr sT28 m m' ∧ Mo_feed_8 d 208 y1 y3 y5 (nI i) w8 w10 m = Mo_feed_8 d 208 y1 y3 y5 (nI (b + 8)) w8' w10' m' ∧ TpM 208 209 (fd8 n r s) m'
  | 0, i, w8, w10, s, m, e, hr, hs, h => ⟨m, w8, w10, Fr.rfl', by rw [show i = b + 8 by omega], h⟩
  | r + 1, i, w8, w10, s, m, e, hr, hs, h => by
    obtain ⟨m1, u1, u2, f1, e1, h1⟩ := Mo_feed_39_s d y1 y3 y5 hn (show i < 24 by omega) w8 w10 hs h
    rw [show 7 - i % 8 = r by omega] at h1
    obtain ⟨m2, v1, v2, f2, e2, h2⟩ := Mo_feed_seg d y1 y3 y5 hn hb hb8 hsel r (i + 1) u1 u2 _ m1 (by omega) (by omega) (f1.sk hs) h1
    exact ⟨m2, v1, v2, f1.tr f2, (hsel i (by omega) (by omega) _ _ _).trans (e1.trans e2), h2⟩
theorem Mo_feed_s (d : Nat) {a b c : Nat} (ha : a < 2 ^ 64) (hb : b < 2 ^ 64) (hc : c < 2 ^ 64) {s : eTp} {m : eM} (hs : Sk m) (h : TpM 208 209 s m) : ∃ m', Fr (fun a j => sT28 a j || (a == 208 && j == 0)) m m' ∧ Mo_feed d 208 (lN a) (lN b) (lN c) m = yI (nI (fd24 a b c s).1) m' ∧ TpM 208 209 (fd24 a b c s) m' := by
  have f0 : Fr (fun a j => sT28 a j || (a == 208 && j == 0)) m (sI m 208 0 0) := Fr.rfl'.i rfl
  have h0 : TpM 208 209 s (sI m 208 0 0) := h
  have hs0 : Sk (sI m 208 0 0) := hs
  have up : ∀ {m m' : eM}, Fr sT28 m m' → Fr (fun a j => sT28 a j || (a == 208 && j == 0)) m m' := fun f => f.up fun a j q => by
    rw [Bool.or_eq_false_iff] at q
    exact q.1
  obtain ⟨m1, u1, u2, f1, e1, h1⟩ := Mo_feed_seg d (lN a) (lN b) (lN c) (b := 0) ha (by decide) (by decide) (fun i q1 q2 w8 w10 m => by
    rw [Mo_feed_8_e _ _ _ _ _ _ _ _ _ kd_208, show (24 : Int32) = nI 24 from rfl, show (8 : Int32) = nI 8 from rfl, if_neg (by rw [n_le (by omega) (by omega)]; omega), if_neg (by rw [n_le (by omega) (by omega)]; omega)]) 8 0 eU eU s _ rfl (Nat.le_refl _) hs0 h0
  obtain ⟨m2, v1, v2, f2, e2, h2⟩ := Mo_feed_seg d (lN a) (lN b) (lN c) (b := 8) hb (by decide) (by decide) (fun i q1 q2 w8 w10 m => by
    rw [Mo_feed_8_e _ _ _ _ _ _ _ _ _ kd_208, show (24 : Int32) = nI 24 from rfl, show (8 : Int32) = nI 8 from rfl, show (16 : Int32) = nI 16 from rfl, if_neg (by rw [n_le (by omega) (by omega)]; omega), if_pos (by rw [n_le (by omega) (by omega)]; omega), if_neg (by rw [n_le (by omega) (by omega)]; omega)]) 8 8 u1 u2 _ _ rfl (Nat.le_refl _) (f1.sk hs0) h1
  obtain ⟨m3, x1, x2, f3, e3, h3⟩ := Mo_feed_seg d (lN a) (lN b) (lN c) (b := 16) hc (by decide) (by decide) (fun i q1 q2 w8 w10 m => by
    rw [Mo_feed_8_e _ _ _ _ _ _ _ _ _ kd_208, show (24 : Int32) = nI 24 from rfl, show (8 : Int32) = nI 8 from rfl, show (16 : Int32) = nI 16 from rfl, if_neg (by rw [n_le (by omega) (by omega)]; omega), if_pos (by rw [n_le (by omega) (by omega)]; omega), if_pos (by rw [n_le (by omega) (by omega)]; omega)]) 8 16 v1 v2 _ _ rfl (Nat.le_refl _) (f2.sk (f1.sk hs0)) h2
  refine ⟨m3, f0.tr (up ((f1.tr f2).tr f3)), ?_, h3⟩
  rw [Mo_feed_e _ _ _ _ _ _ kd_208, mI_u]
  refine (e1.trans (e2.trans e3)).trans ?_
  rw [Mo_feed_8_e _ _ _ _ _ _ _ _ _ kd_208, if_pos (by decide), h3.1]
  rfl
