section STEP3
variable {G : eG} {p : Program} {l : Launch} {e : Env} {R : Room} {s : State} {mid : MethodId} {args : Array Value} {below : List Frame} {meth : Method} {c : Code} {Q : State → Prop} {h0 s0 μ : Nat}
variable {pc pc' npc : Nat} {ls ls' st st' : List Value} {m m' : eM} {ad : Nat → Nat} {H : Heap} {locs : List Loc} {la : Array Slot}
/-- the memory behind a store into a field -/
theorem eO_put {G : eG} {s : State} {m m' : eM} {ad : Nat → Nat} {H H' : Heap} {a ci j ty : Nat} {v : Value} {r : List Value} {cell : Cell} (o : eO G s μ m ad ls (v :: .ref a :: r) H locs la) (hp : ePut m a j ty v = some m') (hty : ty ≤ 4) {d : String} (hr : ty = 2 → isRefT (eFt d ty) = true) (h3 : 3 ≤ a) (hka : kd a = ci) (hci : ci < 11) (hj : j < eNf ci) (ht : ty = eTyp ci j) {q : vw_C} (q1 : eCl[ci]? = some q) (q3 : q.2.2 = eNf ci)
    (c1 : H[ad a]? = some cell) (c2 : cell.cls = G.1.1 ci) (c3 : cell.vm = .none) (c4 : ∀ k, k < eNf ci → cell.slots[G.1.2 ci k]? = some (mv ad (gF m a k (eTyp ci k)))) (hap : ∀ x y, x < eNf ci → y < eNf ci → x ≠ y → G.1.2 ci x ≠ G.1.2 ci y)
    (e1 : H'[ad a]? = some (cell.setSlot (G.1.2 ci j) (mv ad v))) (e2 : H'.size = H.size) (e3 : ∀ q, q ≠ ad a → H'[q]? = H[q]?) : eO G s μ m' ad ls r H' (locs ++ [⟨ad a, G.1.2 ci j⟩]) la ∧ gH m' = gH m ∧ gS m' = gS m := by
  obtain ⟨-, p2, p3, p4, p5, p6, p7, p8, p9, p10⟩ := ePut_spec hp hty hr
  have hax : a < gX m := o.pop.top
  have hv : eRv m v := o.top
  refine ⟨⟨Hp.store (a := a) o.1 p5 p8 h3 hax p9 e2 e3 (Or.inl ⟨by omega, q, hka ▸ q1, ?_⟩) (fun i b hb => ?_), o.2.1, o.2.2.1, fun z hz => ?_, fun w hw => ?_, fun w hw => ?_⟩, p6, p7⟩
  · rw [hka]
    refine ⟨_, e1, c2, c3, fun k hk => ?_⟩
    have hk' : k < eNf ci := q3 ▸ hk
    rw [slot_set (k2_hasslot (c4 j hj))]
    by_cases hkj : k = j
    · subst hkj
      rw [if_pos rfl]
      exact congrArg (fun v => some (mv ad v)) (by rw [← ht]; exact p2.symm)
    · rw [if_neg (fun z => hap k j hk' hj hkj z), c4 k hk']
      exact congrArg (fun v => some (mv ad v)) (p3 k _ hkj).symm
  · rcases p10 i b hb with z | z
    · exact o.1.2.2.2.2.2.2.2.1 _ _ _ z
    · rw [z] at hv; exact hv
  · rcases List.mem_append.mp hz with hz | hz
    · exact o.2.2.2.1 z hz
    · rw [List.mem_singleton.mp hz]
      exact o.1.2.2.1 a h3 hax
  · have := o.2.2.2.2.1 w hw
    cases w <;> first | trivial | (show _ < gX m'; rw [p5]; exact this)
  · have := o.pop.pop.2.2.2.2.2 w hw
    cases w <;> first | trivial | (show _ < gX m'; rw [p5]; exact this)
theorem sn_PutF (F : FR G p s mid args meth c μ) {k : Nat} (hd : decode (mB μ) pc = .ok (.putfield k, 3))
    (ha : ePutF (fAny (mC μ) k) (mC μ) (mIni μ) pc ls st m = some (pc', ls', st', m')) (o : eO G s μ m ad ls st H locs la) (kk : eK G p l e R s mid args below meth c Q h0 s0 μ m ad m' pc' ls' st') : eW p l e R s mid args below meth c Q h0 s0 m ad H locs la pc st := by
  unfold ePutF at ha
  split at ha
  · split at ha
    · rename_i ci j ty fin v a r hf hcond
      obtain ⟨hka, h3, hfin⟩ := hcond
      split at ha
      · rename_i m2 hp
        obtain ⟨rfl, rfl, rfl, rfl⟩ := eGo_inj ha
        have hax : a < gX m := o.pop.top
        have hts := F.2.2.2.2.2.2.1
        unfold fAny at hf
        cases e1 : fRes (mC μ) k with
        | some t =>
          rw [e1] at hf
          cases hf
          have hm := eR2_mem e1
          have hk := tFr2 _ hm
          simp only [kFr, Bool.and_eq_true, decide_eq_true_eq] at hk
          obtain ⟨⟨⟨k1, k2⟩, k3⟩, k4⟩ := hk
          obtain ⟨q, cf, kf, fi, f, cell, q1, q2, q3, q4, f1, f2, f3, c1, c2, c3, c4, ⟨hfc, kC, hkC, hkind⟩, hap⟩ := eFld F o.1 hax hka k1 k2
          have hl := hts _ (tFr _ hm)
          obtain ⟨t1, t2, t3, t4⟩ := tTy ci k1 j k2
          obtain ⟨n1, -⟩ := ePut_spec hp (k3 ▸ t3) (d := (eFl ci j).2.2.1) (k3 ▸ t2)
          have hlay := hts _ (tWs q q4 _ (u_in_lay (q3.symm ▸ k2)))
          unfold u_lay at hlay
          rw [← eFl_of q1, ← k4, q2, t4] at hlay
          have hfl := k2_hasslot (c4 j k2)
          have kkk : ∀ H' : Heap, H'[ad a]? = some (cell.setSlot (G.1.2 ci j) (mv ad v)) → H'.size = H.size → (∀ q, q ≠ ad a → H'[q]? = H[q]?) → W p l e R s mid args below meth c H' (locs ++ [⟨ad a, G.1.2 ci j⟩]) (gH m - h0) (gS m - s0) Q (F0 mid (pc + 3) la (r.map (mv ad))) := fun H' e1 e2 e3 => by
            obtain ⟨o', g2, g3⟩ := eO_put o hp (k3 ▸ t3) (d := (eFl ci j).2.2.1) (k3 ▸ t2) h3 hka k1 k2 k3 q1 q3 c1 c2 c3 c4 hap e1 e2 e3
            have := kk ad H' _ la (fun _ _ => rfl) o'
            simp only [eW, g2, g3] at this
            exact this
          cases hb : fin with
          | false =>
            rw [if_neg (by rw [hb]; decide)] at hlay
            have h6 := u_store hfc hkC hkind hlay f1 (k3 ▸ t1) (n1 ad).1 (n1 ad).2
            refine W.putK F.1 F.2.1 (f := f) ⟨F.2.2.2.2.2.1, hl, ⟨_, _, _, f1⟩, f3⟩ (by rw [c2]; exact h6) c1 c3 (by rw [f2]; exact hfl) rfl rfl hd fun H' e1 e2 e3 => ?_
            rw [f2] at e1 ⊢
            exact kkk H' e1 e2 e3
          | true =>
            rw [if_pos hb] at hlay
            have hfin2 : mIni μ = true ∧ mC μ = ci := hfin.resolve_left (by rw [hb]; decide)
            have hin2 : meth.name = "<init>" := F.2.2.2.2.2.2.2.2 hfin2.1
            have hcf : mid.cls = cf := by
              obtain ⟨_, _, c', _, _, _, -, -, hf', -, -, -, hown2, -⟩ := Cond.laysFinal_spec hlay
              have e1 : c' = cf := by have := f1.symm.trans hf'; simp at this; exact this.1.symm
              have hown := F.2.2.2.2.2.1
              rw [hfin2.2] at hown
              rw [← e1]; exact Option.some.inj (hown.symm.trans hown2)
            have h6 := u_fits hfc hkC hkind (Or.inr hlay) f1 (k3 ▸ t1) (n1 ad).1 (n1 ad).2
            refine W.putFinK F.1 F.2.1 F.2.2.2.2.2.1 hl f1 f3 hcf hin2 (by rw [c2]; exact h6) c1 c3 (by rw [f2]; exact hfl) rfl rfl hd fun H' e1 e2 e3 => ?_
            rw [f2] at e1 ⊢
            exact kkk H' e1 e2 e3
        | none =>
          rw [e1] at hf
          have hf : fRn (mC μ) k = some (ci, j, ty, fin) := hf
          have hm := eR2_mem hf
          have hz := tFn2 _ hm
          have hk : kFr (mC μ, k, ci, j, ty, fin) = true := by rcases hz with z | z <;> exact z.1
          have hb : fin = false := by
            rcases hz with z | z
            · exact z.2
            · rcases hfin with w | w
              · exact w
              · exact absurd w.2 z.2
          simp only [kFr, Bool.and_eq_true, decide_eq_true_eq] at hk
          obtain ⟨⟨⟨k1, k2⟩, k3⟩, k4⟩ := hk
          obtain ⟨q, cf, kf, fi, f, cell, q1, q2, q3, q4, f1, f2, f3, c1, c2, c3, c4, ⟨hfc, kC, hkC, hkind⟩, hap⟩ := eFld F o.1 hax hka k1 k2
          have hl : (wFn (mC μ, k, ci, j, ty, fin)).before args s = true := va_Nw.use rfl (F.2.2.2.2.2.2.2.1.2.2.1 _ hm)
          obtain ⟨t1, t2, t3, t4⟩ := tTy ci k1 j k2
          obtain ⟨n1, -⟩ := ePut_spec hp (k3 ▸ t3) (d := (eFl ci j).2.2.1) (k3 ▸ t2)
          have hlay := hts _ (tWs q q4 _ (u_in_lay (q3.symm ▸ k2)))
          unfold u_lay at hlay
          rw [← eFl_of q1, ← k4, q2, t4] at hlay
          have hfl := k2_hasslot (c4 j k2)
          rw [if_neg (by rw [hb]; decide)] at hlay
          have h6 := u_store hfc hkC hkind hlay f1 (k3 ▸ t1) (n1 ad).1 (n1 ad).2
          refine va_WputK F.1 F.2.1 (f := f) F.2.2.2.2.2.1 hl f1 f3 (by rw [c2]; exact h6) c1 c3 (by rw [f2]; exact hfl) rfl rfl hd fun H' e1 e2 e3 => ?_
          rw [f2] at e1 ⊢
          obtain ⟨o', g2, g3⟩ := eO_put o hp (k3 ▸ t3) (d := (eFl ci j).2.2.1) (k3 ▸ t2) h3 hka k1 k2 k3 q1 q3 c1 c2 c3 c4 hap e1 e2 e3
          have := kk ad H' _ la (fun _ _ => rfl) o'
          simp only [eW, g2, g3] at this
          exact this
      · cases ha
    · cases ha
  · cases ha
theorem eRv_sN {m : eM} {n : Nat} {v : Value} (h : eRv m v) : eRv (sN m n) v := by
  cases v <;> first | trivial | exact Nat.lt_succ_of_lt h
theorem mv_sN {m : eM} {ad : Nat → Nat} {h : Nat} {v : Value} (hv : eRv m v) : mv (adN ad (gX m) h) v = mv ad v := by
  cases v <;> first | rfl | exact congrArg Value.ref (adN_old hv)
/-- behind a new cell -/
theorem eO_born {H' : Heap} {n : Nat} {r : List Value} (o : eO G s μ m ad ls r H locs la) (hb : Hp G s (sN m n) (adN ad (gX m) H.size) H') : eO G s μ (sN m n) (adN ad (gX m) H.size) ls (.ref (gX m) :: r) H' locs la := by
  refine ⟨hb, o.2.1.mono fun v hv => mv_sN (o.2.2.2.2.1 v hv), o.2.2.1, o.2.2.2.1, fun v hv => eRv_sN (o.2.2.2.2.1 v hv), fun v hv => ?_⟩
  rcases List.mem_cons.mp hv with rfl | hv
  · exact Nat.lt_succ_self _
  · exact eRv_sN (o.2.2.2.2.2 v hv)
theorem eS_born {r : List Value} (o : eO G s μ m ad ls r H locs la) : (Value.ref (gX m) :: r).map (mv (adN ad (gX m) H.size)) = .ref H.size :: r.map (mv ad) := by
  show _ :: _ = _ :: _
  congr 1
  · exact congrArg Value.ref (adN_self _ _ _)
  · exact List.map_congr_left fun v hv => mv_sN (o.2.2.2.2.2 v hv)
theorem sn_New (F : FR G p s mid args meth c μ) {k : Nat} (hd : decode (mB μ) pc = .ok (.new k, 3)) (hh : h0 ≤ gH m) (hs : s0 ≤ gS m) (hR1 : gH m' - h0 ≤ R.cells) (hR2 : gS m' - s0 ≤ R.slots)
    (ha : eNew (nRes (mC μ) k) pc ls st m = some (pc', ls', st', m')) (o : eO G s μ m ad ls st H locs la) (kk : eK G p l e R s mid args below meth c Q h0 s0 μ m ad m' pc' ls' st') : eW p l e R s mid args below meth c Q h0 s0 m ad H locs la pc st := by
  unfold eNew at ha
  split at ha
  · split at ha
    · rename_i ci hn hc
      obtain ⟨hka, hci⟩ := hc
      obtain ⟨rfl, rfl, rfl, rfl⟩ := eGo_inj ha
      have hts := F.2.2.2.2.2.2.1
      have hcl : (wNr (mC μ, k, ci)).before args s = true := hts _ (tNr _ (eR2_mem hn))
      obtain ⟨q, q1, q2, q3, q4⟩ := tCl ci hci
      obtain ⟨hS, hA⟩ := F.2.2.2.2.2.2.2.1.1 ci q q1
      have hKn := F.2.2.2.2.2.2.2.1.1 ci q q1
      have hfc := hA.1
      rw [q2] at hfc
      have gh : gH (sN m (eNf ci)) = gH m + 1 := rfl
      have gs : gS (sN m (eNf ci)) = gS m + eNf ci := rfl
      rw [gh] at hR1
      rw [gs] at hR2
      refine W.newcK F.1 F.2.1 F.2.2.2.2.2.1 hcl (hts _ (tInsta ci hci)) (hts _ (tIn ci (by omega))) rfl hd (by omega) (by omega) hfc rfl fun H' kC hkC e1 e2 e3 => ?_
      have hb : Hp G s (sN m (eNf ci)) (adN ad (gX m) H.size) H' := by
        refine Hp.born o.1 e2 e3 (Or.inl ⟨by omega, q, hka ▸ q1, ?_⟩)
        rw [hka, adN_self]
        have := u_born (ws := gtbl) (T := q.2.1) (N := q.2.2) (fun k => eFt (eFl ci k).2.2.1 (eTyp ci k)) hts (tWs q q4) hKn hkC e1 (fun k hk => by rw [← eFl_of q1]; exact (tTy ci hci k (q3 ▸ hk)).1)
        refine this.to fun k hk => ?_
        obtain ⟨z1, z2, z3⟩ := o.1.2.2.2.2.2.2.1 (gX m) k (Nat.le_refl _)
        obtain ⟨-, t2, t3, -⟩ := tTy ci hci k (q3 ▸ hk)
        have y1 : gI (sN m (eNf ci)) (gX m) k = 0 := z1
        have y2 : gL (sN m (eNf ci)) (gX m) k = 0 := z2
        have y3 : gR (sN m (eNf ci)) (gX m) k = none := z3
        unfold gF
        rw [y1, y2, y3]
        generalize eTyp ci k = t at t2 t3
        match t, t2, t3 with
        | 0, _, _ => rfl
        | 1, _, _ => rfl
        | 2, t2, _ =>
          have := t2 rfl
          generalize eFt (eFl ci k).2.2.1 2 = z at this
          cases z <;> first | rfl | cases this
        | 3, _, _ => rfl
        | 4, _, _ => rfl
      have hc := kk _ H' locs la (fun a ha => adN_old ha) (eO_born o hb)
      simp only [eW] at hc
      rw [eS_born o, gh, gs] at hc
      refine W.cs (by omega) (by omega) hc
    · cases ha
  · cases ha
theorem i32_nat {n : Int32} (h : ¬ n < 0) (h2 : n ≤ 100000) : n.toNatClampNeg ≤ 100000 := by
  have e1 : (100000 : Int32).toInt = 100000 := by decide
  have z2 := Int32.le_iff_toInt_le.mp h2
  show n.toInt.toNat ≤ _
  omega
theorem sn_NewA {t : ArrayType} (F : FR G p s mid args meth c μ) (hd : decode (mB μ) pc = .ok (.newarray t, 2)) (hh : h0 ≤ gH m) (hs : s0 ≤ gS m) (hR1 : gH m' - h0 ≤ R.cells) (hR2 : gS m' - s0 ≤ R.slots)
    (ha : eNewA (eATy t) pc 2 ls st m = some (pc', ls', st', m')) (o : eO G s μ m ad ls st H locs la) (kk : eK G p l e R s mid args below meth c Q h0 s0 μ m ad m' pc' ls' st') : eW p l e R s mid args below meth c Q h0 s0 m ad H locs la pc st := by
  unfold eNewA at ha
  split at ha
  · split at ha
    · rename_i n r hc
      obtain ⟨hka, hkl, hn, hn2, h24⟩ := hc
      obtain ⟨rfl, rfl, rfl, rfl⟩ := eGo_inj ha
      have hts := F.2.2.2.2.2.2.1
      have hN := i32_nat hn hn2
      have gh : gH (sN m n.toNatClampNeg) = gH m + 1 := rfl
      have gs : gS (sN m n.toNatClampNeg) = gS m + n.toNatClampNeg := rfl
      rw [gh] at hR1
      rw [gs] at hR2
      have hw : (Cond.arrayClass (newarray.typeOf t)).before args s = true ∧ componentBytes (newarray.typeOf t) ≤ 8 ∧ newarray.typeOf t = eTy (eATy t) ∧ 20 ≤ eATy t ∧ eATy t ≤ 23 := by
        cases t <;> first
          | exact ⟨hts _ tArr.1, by decide, rfl, by decide, by decide⟩
          | exact ⟨hts _ tArr.2.1, by decide, rfl, by decide, by decide⟩
          | exact ⟨hts _ tArr.2.2.1, by decide, rfl, by decide, by decide⟩
          | exact ⟨hts _ tArr.2.2.2, by decide, rfl, by decide, by decide⟩
          | exact absurd h24 (by decide)
      obtain ⟨w1, w2, w3, w4, w5⟩ := hw
      refine W.newaK F.1 F.2.1 (atype := t) w1 rfl hd (n := n) rfl hn rfl (Nat.le_trans (Nat.mul_le_mul hN w2) (by decide)) (by omega) (by omega) rfl fun H' cA e1 e2 e3 e4 => ?_
      have hb : Hp G s (sN m n.toNatClampNeg) (adN ad (gX m) H.size) H' := by
        have hx : gX m ≠ 0 := by have := o.1.2.2.2.2.2.2.2.2.1; omega
        have hal : aln (sN m n.toNatClampNeg) (gX m) = n.toNatClampNeg := by unfold aln; rw [if_neg hx, hkl]
        refine Hp.born o.1 e2 e3 (Or.inr ⟨by omega, by omega, arrV cA n.toNatClampNeg (fun _ => defaultValue (newarray.typeOf t)), ?_, (by rw [hka, ← w3]; exact e4 n.toNatClampNeg _), (fun z => by cases z), ?_, ?_, fun j hj => ?_, fun z => by omega⟩)
        · rw [adN_self]; exact e1
        · rw [arrV_size, hal]; exact Nat.le_refl _
        · rw [arrV_size, hal]
        · rw [hal] at hj
          rw [arrV_read _ _ hj, w3, hka]
          obtain ⟨z1, z2, z3⟩ := o.1.2.2.2.2.2.2.1 (gX m) j (Nat.le_refl _)
          have y1 : gI (sN m n.toNatClampNeg) (gX m) j = 0 := z1
          have y2 : gL (sN m n.toNatClampNeg) (gX m) j = 0 := z2
          unfold gE
          rw [y1, y2, if_neg (show ¬ eATy t = 24 by omega)]
          cases t <;> first | rfl | (exfalso; revert w5; decide)
      have hc := kk _ H' locs la (fun a ha => adN_old ha) (eO_born o.pop hb)
      simp only [eW] at hc
      rw [eS_born o.pop, gh, gs] at hc
      refine W.cs (by omega) (by omega) hc
    · cases ha
  · cases ha
end STEP3
