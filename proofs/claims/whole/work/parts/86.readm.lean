/-! ===== the reference reads an E: what it reads ===== -/
def ImM (s : eTp) (N : Nat → Nat) (n d : Nat) (x1 : Int32) (O : Nat → Nat) (dep c dep' : Nat) (Pre Post : Nat → eM → Prop) (P : xP) : Prop := ∀ b C w4 w5 w6 w7 m, b ≤ s.1 → C.length ≤ tB s b → QM s N n b C m → OpS O dep m → Pre b m → (∀ e, P b = .inl e → ∃ m', Fr (sRd dep c) m m' ∧ Mo_reads_16 (d + 1) 208 x1 (nI dep) 1 w4 w5 w6 w7 m = yI 0 m' ∧ gI m' 208 9 = nI e) ∧ (∀ g, P b = .inr g → ∃ m' u4 u5 u6 u7, Fr (sRd dep c) m m' ∧ Mo_reads_16 (d + 1) 208 x1 (nI dep) 1 w4 w5 w6 w7 m = Mo_reads_16 (d + 1) 208 x1 (nI dep') 0 u4 u5 u6 u7 m' ∧ QM s N n g.1 (C ++ g.2.2.1) m' ∧ Post g.1 m')
theorem Mo_loop {s : eTp} {N : Nat → Nat} {n d : Nat} {x1 : Int32} {O : Nat → Nat} {dep c : Nat} {Pre Post : Nat → eM → Prop} {sub : xP} {op : Nat → Option xOp} (hS : ImM s N n d x1 O dep c dep Pre Post sub) (hG : pG s sub) (hop : opK s op)
    (hst : ∀ b o C w4 w5 w6 w7 m, b ≤ s.1 → C.length < 1000 → QM s N n b C m → op b = some o → Post b m → ∃ k, StpR s N n d x1 dep b C o.2.1 dep c m (Mo_reads_16 (d + 1) 208 x1 (nI dep) 0 w4 w5 w6 w7 m) w4 w5 w6 w7 k ∧ ∀ b' m', gI m' 224 dep = k → Pre b' m') : ∀ k g C w4 w5 w6 w7 m, g.1 ≤ s.1 → (C ++ g.2.2.1).length ≤ tB s g.1 → QM s N n g.1 (C ++ g.2.2.1) m → OpS O dep m → Post g.1 m → (∀ e, pLp s sub op k g = .inl e → ∃ m', Fr (sRd dep c) m m' ∧ Mo_reads_16 (d + 1) 208 x1 (nI dep) 0 w4 w5 w6 w7 m = yI 0 m' ∧ gI m' 208 9 = nI e) ∧ (∀ h, pLp s sub op k g = .inr h → ∃ m' u4 u5 u6 u7, Fr (sRd dep c) m m' ∧ Mo_reads_16 (d + 1) 208 x1 (nI dep) 0 w4 w5 w6 w7 m = Mo_reads_16 (d + 1) 208 x1 (nI dep) 0 u4 u5 u6 u7 m' ∧ QM s N n h.1 (C ++ h.2.2.1) m' ∧ Post h.1 m')
  | 0, g, C, w4, w5, w6, w7, m, h1, h2, h, ho, hp => by
    refine ⟨fun e q => (by cases q), fun x q => ?_⟩
    cases q
    exact ⟨m, w4, w5, w6, w7, Fr.rfl', rfl, h, hp⟩
  | k + 1, g, C, w4, w5, w6, w7, m, h1, h2, h, ho, hp => by
    cases z : op g.1 with
    | none =>
      refine ⟨fun e q => (by rw [pLp_n z] at q; cases q), fun x q => ?_⟩
      rw [pLp_n z] at q
      cases q
      exact ⟨m, w4, w5, w6, w7, Fr.rfl', rfl, h, hp⟩
    | some o =>
      have hk := hop _ _ z
      obtain ⟨k1, k2⟩ := tk_nx h1 hk
      have hlt := (tX_lt hk).2
      have h1000 : s.1 ≤ 1000 := h.1.2.2.1
      obtain ⟨kk, ⟨m1, f1, e1, q1, g1, g2⟩, hPre⟩ := hst g.1 o (C ++ g.2.2.1) w4 w5 w6 w7 m h1 (by omega) h z hp
      obtain ⟨hE, hI⟩ := hS (tX s g.1) (C ++ g.2.2.1 ++ [o.2.1]) w4 w5 w6 w7 m1 k1 (by rw [List.length_append, List.length_cons, List.length_nil]; omega) q1 (ho.c (fun _ _ _ => rfl) fun j _ => g1 j) (hPre _ _ g2)
      rw [e1]
      cases y : sub (tX s g.1) with
      | inl e0 =>
        obtain ⟨m2, f2, a2, r8⟩ := hE e0 y
        refine ⟨fun e q => ?_, fun x q => (by rw [pLp_e z y] at q; cases q)⟩
        rw [pLp_e z y] at q
        cases q
        exact ⟨m2, f1.tr f2, a2, r8⟩
      | inr x =>
        obtain ⟨m2, u4, u5, u6, u7, f2, a2, q2, p2⟩ := hI x y
        obtain ⟨r1, r2, -, r3⟩ := hG _ x k1 y
        have el : C ++ g.2.2.1 ++ [o.2.1] ++ x.2.2.1 = C ++ (opG o g x).2.2.1 := by
          show _ = C ++ (g.2.2.1 ++ (o.2.1 :: x.2.2.1))
          simp only [List.append_assoc, List.cons_append, List.nil_append]
        rw [el] at q2
        obtain ⟨i1, i2⟩ := Mo_loop hS hG hop hst k (opG o g x) C u4 u5 u6 u7 m2 r1 (by
          rw [← el, List.length_append, List.length_append, List.length_cons, List.length_nil]
          show _ ≤ tB s x.1
          omega) q2 ((ho.c (fun _ _ _ => rfl) fun j _ => g1 j).fr f2) p2
        rw [a2, pLp_s z y]
        refine ⟨fun e q => ?_, fun h q => ?_⟩
        · obtain ⟨m4, f4, a4, r8⟩ := i1 e q
          exact ⟨m4, (f1.tr f2).tr f4, a4, r8⟩
        · obtain ⟨m4, v4, v5, v6, v7, f4, a4, q4, p4⟩ := i2 h q
          exact ⟨m4, v4, v5, v6, v7, (f1.tr f2).tr f4, a4, q4, p4⟩
theorem Mo_bin {s : eTp} {N : Nat → Nat} {n d : Nat} {x1 : Int32} {O : Nat → Nat} {dep c : Nat} {Pre Post : Nat → eM → Prop} {sub : xP} {op : Nat → Option xOp} (hS : ImM s N n d x1 O dep c dep Pre Post sub) (hG : pG s sub) (hop : opK s op)
    (hst : ∀ b o C w4 w5 w6 w7 m, b ≤ s.1 → C.length < 1000 → QM s N n b C m → op b = some o → Post b m → ∃ k, StpR s N n d x1 dep b C o.2.1 dep c m (Mo_reads_16 (d + 1) 208 x1 (nI dep) 0 w4 w5 w6 w7 m) w4 w5 w6 w7 k ∧ ∀ b' m', gI m' 224 dep = k → Pre b' m') (F : Nat) : ImM s N n d x1 O dep c dep Pre Post (pBn s sub op F) := fun b C w4 w5 w6 w7 m hb hC h ho hp => by
  obtain ⟨hE, hI⟩ := hS b C w4 w5 w6 w7 m hb hC h ho hp
  cases y : sub b with
  | inl e0 =>
    obtain ⟨m2, f2, a2, r8⟩ := hE e0 y
    refine ⟨fun e q => ?_, fun x q => (by rw [pBn_e y] at q; cases q)⟩
    rw [pBn_e y] at q
    cases q
    exact ⟨m2, f2, a2, r8⟩
  | inr g =>
    obtain ⟨m2, u4, u5, u6, u7, f2, a2, q2, p2⟩ := hI g y
    obtain ⟨r1, r2, -, r3⟩ := hG b g hb y
    obtain ⟨i1, i2⟩ := Mo_loop hS hG hop hst F g C u4 u5 u6 u7 m2 r1 (by rw [List.length_append]; omega) q2 (ho.fr f2) p2
    rw [a2, pBn_s y]
    refine ⟨fun e q => ?_, fun h q => ?_⟩
    · obtain ⟨m4, f4, a4, r8⟩ := i1 e q
      exact ⟨m4, f2.tr f4, a4, r8⟩
    · obtain ⟨m4, v4, v5, v6, v7, f4, a4, q4, p4⟩ := i2 h q
      exact ⟨m4, v4, v5, v6, v7, f2.tr f4, a4, q4, p4⟩
def pT (_ : Nat) (_ : eM) : Prop := True
def pC0 (dep : Nat) (_ : Nat) (m : eM) : Prop := gI m 224 dep = 0
def pC1 (s : eTp) (dep b : Nat) (m : eM) : Prop := opC s b = none ∨ gI m 224 dep = 1
theorem Mo_pr {s : eTp} {N : Nat → Nat} {n d : Nat} {x1 : Int32} {O : Nat → Nat} {dep : Nat} {P : xP} (hd : 1 ≤ d) (hS : ImM s N n d x1 O dep (dep + 1) dep pT pT P) (hG : pG s P) : ImM s N n d x1 O dep (dep + 1) dep pT pT (pPr s P) :=
  Mo_bin hS hG (opM_k s) (fun b o C w4 w5 w6 w7 m hb hC h hq _ => ⟨_, stp_M d h hb hC hd x1 dep dep w4 w5 w6 w7 hq, fun _ _ _ => trivial⟩) 1000
theorem Mo_sm {s : eTp} {N : Nat → Nat} {n d : Nat} {x1 : Int32} {O : Nat → Nat} {dep : Nat} {P : xP} (hd : 1 ≤ d) (hS : ImM s N n d x1 O dep (dep + 1) dep pT pT P) (hG : pG s P) : ImM s N n d x1 O dep (dep + 1) dep pT pT (pBn s P (opA s) 1000) :=
  Mo_bin hS hG (opA_k s) (fun b o C w4 w5 w6 w7 m hb hC h hq _ => ⟨_, stp_A d h hb hC hd x1 dep dep w4 w5 w6 w7 hq, fun _ _ _ => trivial⟩) 1000
theorem Mo_te {s : eTp} {N : Nat → Nat} {n d : Nat} {x1 : Int32} {O : Nat → Nat} {dep : Nat} {sub : xP} (hd : 1 ≤ d) (hdp : dep ≤ 5) (hS : ImM s N n d x1 O dep (dep + 1) dep pT pT sub) (hG : pG s sub) : ImM s N n d x1 O dep dep dep (pC0 dep) (pC1 s dep) (pBn s sub (opC s) 1) := fun b C w4 w5 w6 w7 m hb hC h ho hp => by
  obtain ⟨hE, hI⟩ := hS b C w4 w5 w6 w7 m hb hC h ho trivial
  cases y : sub b with
  | inl e0 =>
    obtain ⟨m2, f2, a2, r8⟩ := hE e0 y
    refine ⟨fun e q => ?_, fun x q => (by rw [pBn_e y] at q; cases q)⟩
    rw [pBn_e y] at q
    cases q
    exact ⟨m2, f2.rdU (Nat.le_refl _) (by omega), a2, r8⟩
  | inr g =>
    obtain ⟨m2, u4, u5, u6, u7, f2, a2, q2, -⟩ := hI g y
    obtain ⟨r1, r2, -, r3⟩ := hG b g hb y
    have f2' : Fr (sRd dep dep) m m2 := f2.rdU (Nat.le_refl _) (by omega)
    have p2 : gI m2 224 dep = 0 := (f2.1 _ _ (sRd_n (by omega) (by omega) (by omega) (by omega))).trans hp
    rw [a2, pBn_s y]
    cases z : opC s g.1 with
    | none =>
      rw [pLp_n z]
      exact ⟨fun e q => (by cases q), fun x q => (by cases q; exact ⟨m2, u4, u5, u6, u7, f2', rfl, q2, Or.inl z⟩)⟩
    | some o =>
      have hk := opC_k s _ _ z
      obtain ⟨k1, k2⟩ := tk_nx r1 hk
      have hlt := (tX_lt hk).2
      have h1000 : s.1 ≤ 1000 := h.1.2.2.1
      have hlen : (C ++ g.2.2.1).length ≤ tB s g.1 := by rw [List.length_append]; omega
      obtain ⟨m3, f3, e3, q3, g3, g4⟩ := stp_C d q2 r1 (by omega) hd x1 dep dep hdp p2 u4 u5 u6 u7 z
      obtain ⟨hE2, hI2⟩ := hS (tX s g.1) (C ++ g.2.2.1 ++ [o.2.1]) u4 u5 u6 u7 m3 k1 (by rw [List.length_append, List.length_cons, List.length_nil]; omega) q3 ((ho.fr f2).c (fun _ _ _ => rfl) fun j _ => g3 j) trivial
      rw [e3]
      cases w : sub (tX s g.1) with
      | inl e0 =>
        obtain ⟨m4, f4, a4, r8⟩ := hE2 e0 w
        rw [pLp_e z w]
        exact ⟨fun e q => (by cases q; exact ⟨m4, (f2'.tr f3).tr (f4.rdU (Nat.le_refl _) (by omega)), a4, r8⟩), fun x q => (by cases q)⟩
      | inr x =>
        obtain ⟨m4, v4, v5, v6, v7, f4, a4, q4, -⟩ := hI2 x w
        rw [pLp_s z w]
        refine ⟨fun e q => (by cases q), fun x' q => ?_⟩
        cases q
        have el : C ++ g.2.2.1 ++ [o.2.1] ++ x.2.2.1 = C ++ (opG o g x).2.2.1 := by
          show _ = C ++ (g.2.2.1 ++ (o.2.1 :: x.2.2.1))
          simp only [List.append_assoc, List.cons_append, List.nil_append]
        rw [el] at q4
        exact ⟨m4, v4, v5, v6, v7, (f2'.tr f3).tr (f4.rdU (Nat.le_refl _) (by omega)), a4, q4, Or.inr ((f4.1 _ _ (sRd_n (by omega) (by omega) (by omega) (by omega))).trans g4)⟩
theorem Mo_ts {s : eTp} {N : Nat → Nat} {n d : Nat} {x1 : Int32} {O : Nat → Nat} {dep : Nat} {P : xP} (hd : 1 ≤ d) (hdp : dep ≤ 5) (hS : ImM s N n d x1 O dep (dep + 1) dep pT pT P) (hG : pG s P) : ImM s N n d x1 O dep dep dep (pC0 dep) (pC1 s dep) (pTs s P) :=
  Mo_bin (Mo_te hd hdp (Mo_sm hd (Mo_pr hd hS hG) (pPr_G hG)) (pSm_G hG)) (pTe_G hG) (opL_k s) (fun b o C w4 w5 w6 w7 m hb hC h hq _ => ⟨0, stp_L d h hb hC hd x1 dep dep hdp w4 w5 w6 w7 hq, fun _ _ q => q⟩) 1000
/-- a not or a ( is opened -/
theorem Mo_146_s (d : Nat) {s : eTp} {N : Nat → Nat} {n b : Nat} {C : List Nat} {m : eM} (h : QM s N n b C m) (hb : b ≤ s.1) (hC : C.length < 1000) (hd : 1 ≤ d) (x1 x4 x5 x7 : Int32) (dep : Nat) (hdp : dep ≤ 5) (nt : Bool) : ∃ m' u4 u5 u6 u7, Fr (sRd dep (dep + 1)) m m' ∧ Mo_reads_146 (d + 1) 208 x1 (nI dep) 1 x4 x5 (bb nt) x7 208 (nI (if nt = true then 30 else 28)) m = Mo_reads_16 (d + 1) 208 x1 (nI (dep + 1)) 1 u4 u5 u6 u7 m' ∧ QM s N n (tX s b) (C ++ [if nt = true then 30 else 28]) m' ∧ (∀ j, j ≤ dep → gI m' 223 j = gI m 223 j) ∧ gI m' 223 (dep + 1) = nI (if nt = true then 1 else 2) ∧ gI m' 224 (dep + 1) = 0 := by
  obtain ⟨m1, f1, a1, q1, g1⟩ := h.pt hC d (if nt = true then 30 else 28) dep (dep + 1)
  obtain ⟨m2, hm2⟩ : ∃ m2, m2 = sI (sI m1 223 (dep + 1) (nI (if nt = true then 1 else 2))) 224 (dep + 1) 0 := ⟨_, rfl⟩
  have f2 : Fr (fun a _ => a == 223 || a == 224) m1 m2 := by rw [hm2]; exact (Fr.rfl'.i rfl).i rfl
  have f2' : Fr (sRd dep (dep + 1)) m1 m2 := by rw [hm2]; exact (Fr.rfl'.i (by unfold sRd; simp)).i (by unfold sRd; simp)
  have q2 := q1.fr f2
  obtain ⟨m3, f3, a3, q3, g3⟩ := q2.nx hb hd dep (dep + 1)
  have e223 : ∀ j, gI m2 223 j = if j = dep + 1 then nI (if nt = true then 1 else 2) else gI m1 223 j := fun j => by
    rw [hm2, gI_sI, if_neg (by omega), gI_sI]
    by_cases z : j = dep + 1
    · rw [if_pos ⟨rfl, z⟩, if_pos z]
    · rw [if_neg (fun q => z q.2), if_neg z]
  cases nt with
  | true =>
    refine ⟨m3, .int x4, .int x5, .int (bb true), .int x7, (f1.tr f2').tr f3, ?_, q3, fun j hj => ?_, ?_, ?_⟩
    · have a1 : Mo_puts d 208 (nI (if true = true then 30 else 28)) m = yV m1 := a1
      rw [Mo_reads_146_e _ _ _ _ _ _ _ _ _ _ _ _ kd_208 kd_208, a1, bV_y, rf_208_24 q1.sk, bR_s, if_neg bt0, nI_1, gw_223 (by omega), mI_u, n_cl (by omega)]
      show (bR (gR m1 208 25) fun r8 => _) = _
      rw [rf_208_25 q1.sk, bR_s, gw_224 (by omega), mI_u]
      have hm2 : m2 = sI (sI m1 223 (dep + 1) 1) 224 (dep + 1) ((0 : Int32) &&& 1) := hm2
      rw [← hm2, a3, bV_y]
    · rw [(g3 j).1, e223, if_neg (by omega), (g1 j).1]
    · rw [(g3 _).1, e223, if_pos rfl]
    · rw [(g3 _).2, hm2, gI_w]
  | false =>
    refine ⟨m3, .int x4, .int x5, .int (bb false), .int x7, (f1.tr f2').tr f3, ?_, q3, fun j hj => ?_, ?_, ?_⟩
    · have a1 : Mo_puts d 208 (nI (if false = true then 30 else 28)) m = yV m1 := a1
      rw [Mo_reads_146_e _ _ _ _ _ _ _ _ _ _ _ _ kd_208 kd_208, a1, bV_y, rf_208_24 q1.sk, bR_s, if_pos bf0, nI_1, gw_223 (by omega), mI_u, n_cl (by omega)]
      show (bR (gR m1 208 25) fun r8 => _) = _
      rw [rf_208_25 q1.sk, bR_s, gw_224 (by omega), mI_u]
      have hm2 : m2 = sI (sI m1 223 (dep + 1) 2) 224 (dep + 1) ((0 : Int32) &&& 1) := hm2
      rw [← hm2, a3, bV_y]
    · rw [(g3 j).1, e223, if_neg (by omega), (g1 j).1]
    · rw [(g3 _).1, e223, if_pos rfl]
    · rw [(g3 _).2, hm2, gI_w]
theorem QM.fn {s : eTp} {N : Nat → Nat} {n b : Nat} {C : List Nat} {m : eM} (h : QM s N n b C m) (hk : tK s b = 2) (d : Nat) : Mo_whichOf d 208 (0 : Int32) m = yI (pO (fnd N n (tW s b))) m := by
  obtain ⟨p1, p2, p3⟩ := h.2.2.2
  exact Mo_whichOf_s d (kind := 0) (by decide) p2 (tW_lt hk) (fun j hj => (p3 j hj).2) h.sk p1 (fun j hj => (p3 j hj).1) (h.2.1.2.2.2.1 hk)
theorem pO_ge {f : Nat} (h : f < 2147483648) : 0 ≤ pO (some f) := nI_pos' h
/-- a PART is opened: not or ( -/
theorem Mo_112_s (d : Nat) (x1 x5 : Int32) (dep : Nat) (hdp : dep ≤ 5) {m : eM} (nt : Bool) (x7 : Int32) (h7 : nt = false → ¬ x7 = 0) (hd : ¬ dep = 5) : Mo_reads_112 (d + 1) 208 x1 (nI dep) 1 0 x5 (bb nt) x7 m = Mo_reads_146 (d + 1) 208 x1 (nI dep) 1 0 x5 (bb nt) x7 208 (nI (if nt = true then 30 else 28)) m := by
  rw [Mo_reads_112_e _ _ _ _ _ _ _ _ _ _ kd_208, if_pos (by rw [show (5 : Int32) = nI 5 from rfl, n_eq (by omega) (by omega)]; exact hd)]
  cases nt with
  | true => rw [if_pos bt0, if_neg bt0]; rfl
  | false => rw [if_neg nbf0, if_neg (h7 rfl), if_pos bf0]; rfl
theorem Mo_part_h {s : eTp} {N : Nat → Nat} {n d : Nat} {x1 : Int32} (hd : 1 ≤ d) (r : Nat) (ih : ∀ r', r = r' + 1 → ∀ dep O, dep + r' = 5 → ImM s N n d x1 O dep (dep + 1) (popD O dep) pT pT (pPt s N n r')) (dep : Nat) (O : Nat → Nat) (hdp : dep + r = 5) : ImM s N n d x1 O dep (dep + 1) (popD O dep) pT pT (pPt s N n r) := fun b C w4 w5 w6 w7 m hb hC h ho _ => by
  have hk4 := tK_le s b
  have h1000 : s.1 ≤ 1000 := h.1.2.2.1
  have hf6 := h.2.2.2.2.1
  have bad : ∀ k D, (Mo_fails D 208 (nI k) m) = yI 0 (sI m 208 9 (nI (er s b k))) := fun k D => Mo_fails_s h.2.1 k D
  have bf : ∀ k, Fr (sRd dep (dep + 1)) m (sI m 208 9 (nI (er s b k))) := fun k => Fr.rfl'.i (by unfold sRd; simp)
  have E0 : ∀ k, pPt s N n r b = .inl (er s b k) → ∀ o, o = yI 0 (sI m 208 9 (nI (er s b k))) → (∀ e, pPt s N n r b = .inl e → ∃ m', Fr (sRd dep (dep + 1)) m m' ∧ o = yI 0 m' ∧ gI m' 208 9 = nI e) ∧ (∀ g, pPt s N n r b = .inr g → ∃ m' u4 u5 u6 u7, Fr (sRd dep (dep + 1)) m m' ∧ o = Mo_reads_16 (d + 1) 208 x1 (nI (popD O dep)) 0 u4 u5 u6 u7 m' ∧ QM s N n g.1 (C ++ g.2.2.1) m' ∧ pT g.1 m') := fun k q o ho => ⟨fun e q2 => (by rw [q] at q2; cases q2; exact ⟨_, bf k, ho, gI_w _ _ _ _⟩), fun g q2 => (by rw [q] at q2; cases q2)⟩
  have five : ∀ x4 x5 x6 x7, dep = 5 → Mo_reads_112 (d + 1) 208 x1 (nI dep) 1 x4 x5 x6 x7 m = yI 0 (sI m 208 9 (nI (er s b 5))) := fun x4 x5 x6 x7 q => by
    rw [Mo_reads_112_e _ _ _ _ _ _ _ _ _ _ kd_208, if_neg (by rw [q]; exact fun w => w rfl), show (5 : Int32) = nI 5 from rfl, bad, bI_y, yB0]
  rw [Mo_reads_16_e _ _ _ _ _ _ _ _ _ _ kd_208, if_neg ten1, Mo_isKept_s h.2.1, bI_y]
  by_cases zN : tkN s b = true
  · have kN := (tkN_k zN).1
    have nW : tkW s b 10631 = false := Bool.eq_false_iff.mpr fun q => by
      have := tkW_n (n := 10631) (by decide) q
      rw [this] at zN; cases zN
    have nS : tkS s b 40 = false := Bool.eq_false_iff.mpr fun q => by have := (tkS_k q).1; omega
    rw [zN, Bool.not_true, if_neg nbf0, h.fn kN, bI_y, Mo_reads_48_e _ _ _ _ _ _ _ _ _ _ _ kd_208, r43, h.wd (by decide), bI_y, r37, h.sg (by decide) rfl, bI_y, if_neg ten1, nW, nS]
    cases y : fnd N n (tW s b) with
    | none =>
      rw [if_neg (show ¬ 0 ≤ pO none by decide), show (2 : Int32) = nI 2 from rfl, bad, bI_y, yB0]
      exact E0 2 (pPt_u zN y) _ rfl
    | some f =>
      have hf : f < 6 := Nat.lt_of_lt_of_le (fnd_lt y) hf6
      rw [if_pos (pO_ge (by omega)), if_pos ten1]
      cases r with
      | zero =>
        rw [five _ _ _ _ (by omega)]
        exact E0 5 (pPt_f0 zN y) _ rfl
      | succ r =>
        have hx := (tX_lt (show tK s b ≠ 0 by omega)).2
        obtain ⟨m1, f1, a1, q1, g1⟩ := h.pt (by omega) d (1 + f) dep (dep + 1)
        obtain ⟨m2, f2, a2, q2, g2⟩ := Mo_203_s d hb hd x1 0 1 (pO (some f)) (bb false) (bb false) dep (dep + 1) dep m1 (by omega) q1 (ho.c (fun _ _ _ => rfl) fun j _ => (g1 j).1)
        have a1 : Mo_puts d 208 (1 + pO (some f)) m = yV m1 := by
          show Mo_puts d 208 (nI 1 + nI f) m = _
          rw [nI_add]; exact a1
        rw [Mo_reads_112_e _ _ _ _ _ _ _ _ _ _ kd_208, if_pos (by rw [show (5 : Int32) = nI 5 from rfl, n_eq (by omega) (by omega)]; omega), if_neg nbf0, if_pos bf0, if_neg ten1, a1, bV_y, a2, pPt_f zN y]
        exact ⟨fun e q => (by cases q), fun g q => (by cases q; exact ⟨m2, _, _, _, _, f1.tr f2, rfl, q2, trivial⟩)⟩
  · have zN' := Bool.eq_false_iff.mpr zN
    rw [zN', Bool.not_false, if_pos bt0, Mo_reads_48_e _ _ _ _ _ _ _ _ _ _ _ kd_208, r43, h.wd (by decide), bI_y, r37, h.sg (by decide) rfl, bI_y, if_pos rfl, if_neg (fun q => q rfl)]
    by_cases zW : tkW s b 10631 = true
    · have kN := (tkW_k zW).1
      have nS : tkS s b 40 = false := tkWS zW
      rw [zW, nS, if_pos bt0]
      cases r with
      | zero =>
        rw [five _ _ _ _ (by omega)]
        exact E0 5 (pPt_50 zN (Or.inl zW)) _ rfl
      | succ r =>
        obtain ⟨k1, k2⟩ := tk_nx hb (show tK s b ≠ 0 by omega)
        have hx := (tX_lt (show tK s b ≠ 0 by omega)).2
        obtain ⟨m1, v4, v5, v6, v7, f1, a1, q1, g1, g2, g3⟩ := Mo_146_s d h hb (by omega) hd x1 0 (-1) (bb false) dep (by omega) true
        obtain ⟨O', hO'⟩ : ∃ O' : Nat → Nat, O' = fun j => if j = dep + 1 then 1 else O j := ⟨_, rfl⟩
        have hO1 : ∀ j, 1 ≤ j → j ≤ dep → O' j = O j := fun j _ q => by rw [hO']; exact if_neg (by omega)
        have ho1 : OpS O' (dep + 1) m1 := fun j q1 q2 => by
          by_cases z : j = dep + 1
          · rw [z, g2, hO']; exact ⟨by simp, Or.inl (by simp)⟩
          · rw [g1 j (by omega), hO1 j q1 (by omega)]; exact ho j q1 (by omega)
        have hpop : popD O' (dep + 1) = popD O dep := by
          unfold popD
          rw [show O' (dep + 1) = 1 by rw [hO']; exact if_pos rfl, if_pos rfl]
          cases dep with
          | zero => rfl
          | succ k => exact popD_c (k + 1) hO1
        obtain ⟨hE, hI⟩ := ih r rfl (dep + 1) O' (by omega) (tX s b) (C ++ [30]) v4 v5 v6 v7 m1 k1 (by rw [List.length_append, List.length_cons, List.length_nil]; omega) q1 ho1 trivial
        rw [Mo_112_s d x1 (-1) dep (by omega) true (bb false) (fun q => by cases q) (by omega), a1]
        cases y : pPt s N n r (tX s b) with
        | inl e0 =>
          obtain ⟨m2, f2, a2, r8⟩ := hE e0 y
          rw [a2, pPt_ne zN zW y]
          exact ⟨fun e q => (by cases q; exact ⟨m2, f1.tr (f2.rdU (by omega) (by omega)), rfl, r8⟩), fun g q => (by cases q)⟩
        | inr x =>
          obtain ⟨m2, u4, u5, u6, u7, f2, a2, q2, -⟩ := hI x y
          rw [a2, hpop, pPt_ns zN zW y]
          refine ⟨fun e q => (by cases q), fun g q => ?_⟩
          cases q
          rw [List.append_assoc] at q2
          exact ⟨m2, u4, u5, u6, u7, f1.tr (f2.rdU (by omega) (by omega)), rfl, q2, trivial⟩
    · have zW' := Bool.eq_false_iff.mpr zW
      rw [zW', if_neg nbf0]
      by_cases zS : tkS s b 40 = true
      · have kN := (tkS_k zS).1
        rw [zS, if_pos bt0]
        cases r with
        | zero =>
          rw [five _ _ _ _ (by omega)]
          exact E0 5 (pPt_50 zN (Or.inr (Or.inl zS))) _ rfl
        | succ r =>
          obtain ⟨k1, k2⟩ := tk_nx hb (show tK s b ≠ 0 by omega)
          have hx := (tX_lt (show tK s b ≠ 0 by omega)).2
          obtain ⟨m1, v4, v5, v6, v7, f1, a1, q1, g1, g2, g3⟩ := Mo_146_s d h hb (by omega) hd x1 0 (-1) (bb true) dep (by omega) false
          obtain ⟨O', hO'⟩ : ∃ O' : Nat → Nat, O' = fun j => if j = dep + 1 then 2 else O j := ⟨_, rfl⟩
          have hO1 : ∀ j, 1 ≤ j → j ≤ dep → O' j = O j := fun j _ q => by rw [hO']; exact if_neg (by omega)
          have ho1 : OpS O' (dep + 1) m1 := fun j q1 q2 => by
            by_cases z : j = dep + 1
            · rw [z, g2, hO']; exact ⟨by simp, Or.inr (by simp)⟩
            · rw [g1 j (by omega), hO1 j q1 (by omega)]; exact ho j q1 (by omega)
          have hpop : popD O' (dep + 1) = dep + 1 := by
            unfold popD
            rw [show O' (dep + 1) = 2 by rw [hO']; exact if_pos rfl, if_neg (by decide)]
          have hP := ih r rfl (dep + 1) O' (by omega)
          rw [hpop] at hP
          have gP := pPt_G s N n r
          obtain ⟨hE, hI⟩ := Mo_ts hd (by omega) hP gP (tX s b) (C ++ [28]) v4 v5 v6 v7 m1 k1 (by rw [List.length_append, List.length_cons, List.length_nil]; omega) q1 ho1 g3
          rw [Mo_112_s d x1 (-1) dep (by omega) false (bb true) (fun _ => bt0) (by omega), a1]
          cases y : pTs s (pPt s N n r) (tX s b) with
          | inl e0 =>
            obtain ⟨m2, f2, a2, r8⟩ := hE e0 y
            rw [a2, pPt_ce zN zW zS y]
            exact ⟨fun e q => (by cases q; exact ⟨m2, f1.tr (f2.rdU (by omega) (by omega)), rfl, r8⟩), fun g q => (by cases q)⟩
          | inr x =>
            obtain ⟨m2, u4, u5, u6, u7, f2, a2, q2, p2⟩ := hI x y
            obtain ⟨s1, s2, s3⟩ := pTs_stop gP h1000 k1 y
            obtain ⟨t1, t2, -, t3⟩ := pTs_G gP _ x k1 y
            have f2' : Fr (sRd dep (dep + 1)) m1 m2 := f2.rdU (by omega) (by omega)
            rw [a2, stp_N d q2 x1 (dep + 1) (by omega) u4 u5 u6 u7 s1 s2 s3 p2, pPt_cs zN zW zS y]
            by_cases w : tkS s x.1 41 = true
            · have hx2 := (tX_lt (show tK s x.1 ≠ 0 by have := (tkS_k w).1; omega)).2
              have hl2 : (C ++ [28] ++ x.2.2.1).length < 1000 := by
                rw [List.length_append, List.length_append, List.length_cons, List.length_nil]; omega
              obtain ⟨m3, f3, a3, q3, g3'⟩ := q2.pt hl2 d 29 dep (dep + 1)
              have ho2 : OpS O dep m3 := ho.c (fun _ _ _ => rfl) fun j hj => by
                rw [(g3' j).1, f2.1 223 j (sRd_n (by omega) (by omega) (by omega) (by omega)), g1 j hj]
              obtain ⟨m4, f4, a4, q4, g4⟩ := Mo_430_s d t1 hd x1 0 u4 u5 u6 u7 dep (dep + 1) dep m3 (by omega) q3 ho2
              have a3 : Mo_puts d 208 (29 : Int32) m2 = yV m3 := a3
              rw [if_pos w, if_pos ⟨w, Nat.succ_pos _⟩, a3, bV_y, n_m1 (Nat.succ_pos _)]
              have a4 : Mo_reads_430 (d + 1) 208 x1 (nI (dep + 1 - 1)) 0 u4 u5 u6 u7 m3 = _ := a4
              rw [a4]
              refine ⟨fun e q => (by cases q), fun g q => ?_⟩
              cases q
              refine ⟨m4, u4, u5, u6, u7, ((f1.tr f2').tr f3).tr f4, rfl, ?_, trivial⟩
              have el : C ++ [28] ++ x.2.2.1 ++ [29] = C ++ (28 :: (x.2.2.1 ++ [29])) := by simp only [List.append_assoc, List.cons_append, List.nil_append]
              rw [el] at q4
              exact q4
            · rw [if_neg w, if_neg (fun q => w q.1), Mo_reads_450_e _ _ _ _ _ _ _ _ _ _ kd_208, if_pos (by rw [show (0 : Int32) = nI 0 from rfl, n_eq (by omega) (by omega)]; omega), show (1 : Int32) = nI 1 from rfl, Mo_fails_s q2.2.1, bI_y, yB0]
              refine ⟨fun e q => ?_, fun g q => (by cases q)⟩
              cases q
              exact ⟨_, (f1.tr f2').i (by unfold sRd; simp), rfl, gI_w _ _ _ _⟩
      · have zS' := Bool.eq_false_iff.mpr zS
        have hmk := mK_lt s b
        rw [zS', if_neg nbf0, h.2.1.2.1]
        by_cases z3 : tK s b = 3
        · rw [if_pos (by rw [mK_2.mpr z3]; rfl)]
          cases r with
          | zero =>
            rw [five _ _ _ _ (by omega)]
            exact E0 5 (pPt_50 zN (Or.inr (Or.inr z3))) _ rfl
          | succ r =>
            have hx := (tX_lt (show tK s b ≠ 0 by omega)).2
            obtain ⟨m1, f1, a1, q1, g1⟩ := h.pt (by omega) d (100 + tN s b) dep (dep + 1)
            obtain ⟨m2, f2, a2, q2, g2⟩ := Mo_203_s d hb hd x1 0 0 (-1) (bb false) (bb false) dep (dep + 1) dep m1 (by omega) q1 (ho.c (fun _ _ _ => rfl) fun j _ => (g1 j).1)
            have a1 : Mo_puts d 208 (100 + gI m 208 8) m = yV m1 := by
              rw [h.2.1.2.2.2.2 z3]
              show Mo_puts d 208 (nI 100 + nI (tN s b)) m = _
              rw [nI_add]; exact a1
            rw [Mo_reads_112_e _ _ _ _ _ _ _ _ _ _ kd_208, if_pos (by rw [show (5 : Int32) = nI 5 from rfl, n_eq (by omega) (by omega)]; omega), if_neg nbf0, if_pos bf0, if_pos rfl, a1, bV_y, a2, pPt_3 zN zW zS z3]
            exact ⟨fun e q => (by cases q), fun g q => (by cases q; exact ⟨m2, _, _, _, _, f1.tr f2, rfl, q2, trivial⟩)⟩
        · rw [if_neg (by rw [show (2 : Int32) = nI 2 from rfl, n_eq (by omega) (by omega)]; exact fun q => z3 (mK_2.mp q)), show (1 : Int32) = nI 1 from rfl, bad, bI_y, yB0]
          exact E0 1 (pPt_1 zN zW zS z3) _ rfl
theorem Mo_part_s {s : eTp} {N : Nat → Nat} {n d : Nat} {x1 : Int32} (hd : 1 ≤ d) : ∀ r dep O, dep + r = 5 → ImM s N n d x1 O dep (dep + 1) (popD O dep) pT pT (pPt s N n r)
  | 0 => Mo_part_h hd 0 fun r' h => by omega
  | r + 1 => Mo_part_h hd (r + 1) fun r' h => by
    obtain rfl : r' = r := by omega
    exact Mo_part_s hd r'
def sRe (a j : Nat) : Bool := sRd 0 0 a j
/-- where an E may end -/
def endE (s : eTp) (wh : Bool) (b : Nat) : Bool := if wh = true then decide (tK s b = 0) else tkS s b 59
/-- as QM, whatever was written -/
def QM0 (s : eTp) (N : Nat → Nat) (n b : Nat) (m : eM) : Prop := (Sk m ∧ TzM s m) ∧ TkM s b m ∧ MaC N n m
theorem Mo_reads_s {s : eTp} {N : Nat → Nat} {n D : Nat} (hD : 2 ≤ D) {b : Nat} {m : eM} (hb : b ≤ s.1) (h : QM0 s N n b m) (wh : Bool) : (∀ e, pE s N n b = .inl e → ∃ m', Fr sRe m m' ∧ Mo_reads D 208 (bb wh) m = yI 0 m' ∧ gI m' 208 9 = nI e) ∧ (∀ g, pE s N n b = .inr g → (endE s wh g.1 = true → ∃ m', Fr sRe m m' ∧ Mo_reads D 208 (bb wh) m = yI 1 m' ∧ QM s N n g.1 g.2.2.1 m' ∧ gI m' 222 0 = nI g.2.2.1.length) ∧ (endE s wh g.1 = false → ∃ m', Fr sRe m m' ∧ Mo_reads D 208 (bb wh) m = yI 0 m' ∧ gI m' 208 9 = nI (er s g.1 1))) := by
  obtain ⟨d, rfl⟩ : ∃ d, D = d + 1 := ⟨D - 1, by omega⟩
  obtain ⟨m0, hm0⟩ : ∃ m0, m0 = sI (sI m 224 0 0) 208 23 0 := ⟨_, rfl⟩
  have f0 : Fr sRe m m0 := by rw [hm0]; exact (Fr.rfl'.i rfl).i rfl
  have q0 : QM s N n b [] m0 := by
    obtain ⟨⟨hs, ht⟩, hk, ⟨p1, p2, p3⟩⟩ := h
    have f : Fr (fun a j => a == 224 || (a == 208 && j == 23)) m m0 := by rw [hm0]; exact (Fr.rfl'.i rfl).i rfl
    exact ⟨⟨f.sk hs, ht.fr f rfl (fun _ => rfl)⟩, hk.fr f (fun j q1 q2 => (by simp; omega)), ⟨by rw [hm0]; exact gI_w _ _ _ _, fun i hi => by cases hi⟩, (f.1 _ _ rfl).trans p1, p2, fun j hj => ⟨(f.2.1 _ _ rfl).trans (p3 j hj).1, (p3 j hj).2⟩⟩
  have h1000 : s.1 ≤ 1000 := h.1.2.2.1
  have gP := pPt_G s N n 5
  obtain ⟨hE, hI⟩ := Mo_ts (x1 := bb wh) (O := fun _ => 0) (dep := 0) (d := d) (by omega) (by decide) (Mo_part_s (s := s) (N := N) (n := n) (by omega) 5 0 (fun _ => 0) rfl) gP b [] eU eU eU eU m0 hb (Nat.zero_le _) q0 (fun j q1 q2 => by omega) (by rw [hm0]; rfl)
  have e0 : Mo_reads (d + 1) 208 (bb wh) m = Mo_reads_16 (d + 1) 208 (bb wh) (nI 0) 1 eU eU eU eU m0 := by
    rw [Mo_reads_e _ _ _ _ kd_208, rf_208_25 h.1.1, bR_s, show (0 : Int32) = nI 0 from rfl, gw_224 (by decide), mI_u, mI_u, hm0]
    rfl
  rw [e0]
  refine ⟨fun e q => ?_, fun g q => ?_⟩
  · obtain ⟨m2, f2, a2, r8⟩ := hE e q
    exact ⟨m2, f0.tr f2, a2, r8⟩
  · obtain ⟨m2, u4, u5, u6, u7, f2, a2, q2, p2⟩ := hI g q
    obtain ⟨s1, s2, s3⟩ := pTs_stop gP h1000 hb q
    have hmk := mK_lt s g.1
    have f2 : Fr sRe m0 m2 := f2
    have bd : Mo_fails d 208 (1 : Int32) m2 = yI 0 (sI m2 208 9 (nI (er s g.1 1))) := Mo_fails_s q2.2.1 1 d
    have q2 : QM s N n g.1 g.2.2.1 m2 := q2
    have fin : gw m2 222 20 (0 : Int32) (mI m2 222 (0 : Int32).toNatClampNeg (gI m2 208 23) fun m8 => yI (1 : Int32) m8) = yI 1 (sI m2 222 0 (nI g.2.2.1.length)) := by
      rw [show (0 : Int32) = nI 0 from rfl, gw_222 (by decide), mI_u, n_cl (by decide), q2.2.2.1.1]
    have q3 : QM s N n g.1 g.2.2.1 (sI m2 222 0 (nI g.2.2.1.length)) := by
      obtain ⟨⟨hs, ht⟩, hk, ⟨l1, l2⟩, ⟨p1, p2, p3⟩⟩ := q2
      exact ⟨⟨hs, ht⟩, hk, ⟨l1, l2⟩, p1, p2, p3⟩
    have g3 : Fr sRe m (sI m2 222 0 (nI g.2.2.1.length)) := (f0.tr f2).i rfl
    have g4 : Fr sRe m (sI m2 208 9 (nI (er s g.1 1))) := (f0.tr f2).i rfl
    rw [a2, stp_N d q2 (bb wh) 0 (by decide) u4 u5 u6 u7 s1 s2 s3 p2, if_neg (fun q => by omega), Mo_reads_450_e _ _ _ _ _ _ _ _ _ _ kd_208, if_neg (fun q => q rfl)]
    cases wh with
    | false =>
      rw [if_pos bf0, r38, q2.sg (by decide) rfl, bI_y]
      refine ⟨fun w => ?_, fun w => ?_⟩
      · have w : tkS s g.1 59 = true := w
        rw [w, if_neg bt0, rf_208_22 q2.sk, bR_s, fin]
        exact ⟨_, g3, rfl, q3, gI_w _ _ _ _⟩
      · have w : tkS s g.1 59 = false := w
        rw [w, if_pos bf0, bd, bI_y, yB0]
        exact ⟨_, g4, rfl, gI_w _ _ _ _⟩
    | true =>
      rw [if_neg bt0, q2.2.1.2.1]
      refine ⟨fun w => ?_, fun w => ?_⟩
      · have w : tK s g.1 = 0 := of_decide_eq_true w
        rw [if_neg (by rw [mK_0.mpr w]; exact fun q => q rfl), rf_208_22 q2.sk, bR_s, fin]
        exact ⟨_, g3, rfl, q3, gI_w _ _ _ _⟩
      · have w : ¬ tK s g.1 = 0 := of_decide_eq_false w
        rw [if_pos (by rw [show (0 : Int32) = nI 0 from rfl, n_eq (by omega) (by omega)]; exact fun q => w (mK_0.mp q)), bd, bI_y, yB0]
        exact ⟨_, g4, rfl, gI_w _ _ _ _⟩
