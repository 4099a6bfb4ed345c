section STEP4
variable {G : eG} {p : Program} {l : Launch} {e : Env} {R : Room} {s : State} {mid : MethodId} {args : Array Value} {below : List Frame} {meth : Method} {c : Code} {Q : State → Prop} {h0 s0 μ : Nat}
variable {pc pc' npc : Nat} {ls ls' st st' : List Value} {m m' : eM} {ad : Nat → Nat} {H : Heap} {locs : List Loc} {la : Array Slot}
theorem sn_ANew (F : FR G p s mid args meth c μ) {k : Nat} (hd : decode (mB μ) pc = .ok (.anewarray k, 3)) (hh : h0 ≤ gH m) (hs : s0 ≤ gS m) (hR1 : gH m' - h0 ≤ R.cells) (hR2 : gS m' - s0 ≤ R.slots)
    (hn6 : nRes (mC μ) k = some 6) (ha : eNewA 24 pc 3 ls st m = some (pc', ls', st', m')) (o : eO G s μ m ad ls st H locs la) (kk : eK G p l e R s mid args below meth c Q h0 s0 μ m ad m' pc' ls' st') : eW p l e R s mid args below meth c Q h0 s0 m ad H locs la pc st := by
  unfold eNewA at ha
  split at ha
  · split at ha
    · rename_i n r hc
      obtain ⟨hka, hkl, hn, hn2, -⟩ := hc
      obtain ⟨rfl, rfl, rfl, rfl⟩ := eGo_inj ha
      have hts := F.2.2.2.2.2.2.1
      have hN := i32_nat hn hn2
      have gh : gH (sN m n.toNatClampNeg) = gH m + 1 := rfl
      have gs : gS (sN m n.toNatClampNeg) = gS m + n.toNatClampNeg := rfl
      rw [gh] at hR1
      rw [gs] at hR2
      have hcl : (Cond.classLink (cN (mC μ)) k "LiarsCock$State").before args s = true := hts _ (tNr _ (eR2_mem hn6))
      have hov : (Cond.arrayOver (.object "LiarsCock$State")).before args s = true := F.2.2.2.2.2.2.2.1.2.2.2.2.2.1
      refine W.anew F.1 F.2.1 F.2.2.2.2.2.1 hcl hov rfl hd (n := n) rfl hn (Nat.le_trans (Nat.mul_le_mul hN (Nat.le_refl 4)) (by decide)) (by omega) (by omega) fun cA kA comp h1 h2 h3 h4 => ?_
      have e0 : (H.push { cls := cA, slots := Array.replicate n.toNatClampNeg .null, vm := .none })[H.size]? = some (arrV cA n.toNatClampNeg (fun _ => .null)) := by rw [← arrV_new]; simp
      generalize hHH : H.push { cls := cA, slots := Array.replicate n.toNatClampNeg .null, vm := .none } = H' at e0 ⊢
      have e2 : H'.size = H.size + 1 := by rw [← hHH]; simp
      have e3 : ∀ q : Nat, q < H.size → H'[q]? = H[q]? := fun q hq => by rw [← hHH, Array.getElem?_push, if_neg (Nat.ne_of_lt hq)]
      have hb : Hp G s (sN m n.toNatClampNeg) (adN ad (gX m) H.size) H' := by
        have hx : gX m ≠ 0 := by have := o.1.2.2.2.2.2.2.2.2.1; omega
        have hal : aln (sN m n.toNatClampNeg) (gX m) = n.toNatClampNeg := by unfold aln; rw [if_neg hx, hkl]
        refine Hp.born o.1 e2 e3 (Or.inr ⟨by omega, by omega, arrV cA n.toNatClampNeg (fun _ => .null), ?_, (by rw [hka]; exact ⟨(fun k h => by cases h), kA, h2, comp, h3⟩), (fun z => by cases z), ?_, ?_, fun j hj => ?_, fun _ => ⟨kA, comp, h2, h3, h4, h1⟩⟩)
        · rw [adN_self]; exact e0
        · rw [arrV_size, hal]; exact Nat.le_refl _
        · rw [arrV_size, hal]
        · rw [hal] at hj
          rw [arrV_read _ _ hj, hka]
          obtain ⟨z1, z2, z3⟩ := o.1.2.2.2.2.2.2.1 (gX m) j (Nat.le_refl _)
          have y3 : gR (sN m n.toNatClampNeg) (gX m) j = none := z3
          unfold gE
          rw [y3]; rfl
      have hc := kk _ H' locs la (fun a ha => adN_old ha) (eO_born o.pop hb)
      simp only [eW] at hc
      rw [eS_born o.pop, gh, gs] at hc
      refine W.cs (by omega) (by omega) hc
    · cases ha
  · cases ha
theorem sn_AstR (F : FR G p s mid args meth c μ) (hd : decode (mB μ) pc = .ok (.aastore, 1))
    (ha : eAstR pc ls st m = some (pc', ls', st', m')) (o : eO G s μ m ad ls st H locs la) (kk : eK G p l e R s mid args below meth c Q h0 s0 μ m ad m' pc' ls' st') : eW p l e R s mid args below meth c Q h0 s0 m ad H locs la pc st := by
  unfold eAstR at ha
  split at ha
  · split at ha
    · rename_i x j a r h
      obtain ⟨hka, hkx, hin, h3⟩ := h
      obtain ⟨rfl, rfl, rfl, rfl⟩ := eGo_inj ha
      obtain ⟨i1, i2⟩ := eIn_spec hin
      have hax : a < gX m := o.pop.pop.top
      have hxx : x < gX m := o.top
      obtain ⟨d1, cell, c1, c2, c3, c4, c5, c6, c7⟩ := eArr o.1 hax (by omega)
      obtain ⟨kA, comp, k1, k2, k3, k4⟩ := c7 hka
      obtain ⟨q, cf, kf, fi, f, cv, -, -, -, -, -, -, -, v1, v2, v3, -, hA, -⟩ := eFld F o.1 hxx hkx (by decide) (show 0 < eNf 6 by decide)
      obtain ⟨hfc, kC, hkC, -⟩ := id hA
      have hcomp : comp = G.1.1 6 := Option.some.inj (k3.symm.trans hfc)
      subst hcomp
      refine W.aast F.1 F.2.1 c1 c2.1 c3 k1 k2 rfl hkC ⟨i1, by omega⟩ v1 (fun q h => by rw [v3] at h; cases h) (by rw [v2]; exact hkC) (by rw [v2]; exact va_assign hA) rfl rfl hd fun H' e1 e2 e3 => ?_
      refine kk ad H' _ la (fun _ _ => rfl) ⟨Hp.store (a := a) o.1 rfl rfl h3 hax (fun b hb => ⟨rfl, rfl, ?_⟩) e2 e3 ?_ (fun i b hb => ?_), o.2.1, o.2.2.1, ?_, o.2.2.2.2.1, fun v hv => o.pop.pop.pop.2.2.2.2.2 v hv⟩
      · funext i
        exact if_neg fun z => hb z.1
      · refine Or.inr ⟨by omega, d1, _, e1, c2, c3, by rw [k2_slotsz]; exact c4, by rw [k2_slotsz]; exact c5, fun i hi => ?_, fun _ => ⟨kA, _, k1, k2, k3, k4⟩⟩
        rw [slot_set (by omega)]
        have hg : gE (sR m a j.toNatClampNeg (some x)) a i (kd a) = if i = j.toNatClampNeg then .ref x else gE m a i (kd a) := by
          have e24 : ∀ mm : eM, gE mm a i 24 = vr (gR mm a i) := fun _ => rfl
          rw [hka, e24, e24]
          show vr (if a = a ∧ i = j.toNatClampNeg then some x else gR m a i) = _
          by_cases e9 : i = j.toNatClampNeg
          · rw [if_pos ⟨rfl, e9⟩, if_pos e9]; rfl
          · rw [if_neg (fun z => e9 z.2), if_neg e9]
        rw [hg]
        split
        · rfl
        · exact c6 i hi
      · have hb : (if a = a ∧ i = j.toNatClampNeg then some x else gR m a i) = some b := hb
        split at hb
        · cases hb; exact hxx
        · exact o.1.2.2.2.2.2.2.2.1 _ _ _ hb
      · intro q hq
        rcases List.mem_append.mp hq with hq | hq
        · exact o.2.2.2.1 q hq
        · rw [List.mem_singleton.mp hq]
          exact o.1.2.2.1 a h3 hax
    · cases ha
  · cases ha
theorem tFS : (Cond.fieldLink "LiarsCock$Tape" 60 "LiarsCock$Tape" "TAKEN" "[J") ∈ gtbl ∧ (Cond.fieldLink "LiarsCock" 387 "LiarsCock" "FACT_SO" "[J") ∈ gtbl := by
  have h : ∀ w ∈ [Cond.fieldLink "LiarsCock$Tape" 60 "LiarsCock$Tape" "TAKEN" "[J", Cond.fieldLink "LiarsCock" 387 "LiarsCock" "FACT_SO" "[J"], tables_1.contains w = true := by decide +kernel
  exact ⟨g_of (List.contains_iff_mem.mp (h _ (by simp))) rfl, g_of (List.contains_iff_mem.mp (h _ (by simp))) rfl⟩
theorem sn_Gets (F : FR G p s mid args meth c μ) {k : Nat} (hd : decode (mB μ) pc = .ok (.getstatic k, 3))
    (ha : eC (sRes (mC μ) k) .ref (pc + 3) ls st m = some (pc', ls', st', m')) (o : eO G s μ m ad ls st H locs la) (kk : eK G p l e R s mid args below meth c Q h0 s0 μ m ad m' pc' ls' st') : eW p l e R s mid args below meth c Q h0 s0 m ad H locs la pc st := by
  unfold eC at ha
  split at ha
  · rename_i v hv
    obtain ⟨rfl, rfl, rfl, rfl⟩ := eGo_inj ha
    have hm := eR2_mem hv
    have h3 := o.1.2.2.2.2.2.2.2.2.1
    have hfr := o.1.2.2.2.2.2.1
    have hc := fun h => kk ad H locs la (fun _ _ => rfl) (o.push (v := .ref v) h)
    have hK := F.2.2.2.2.2.2.2.1
    have hts := F.2.2.2.2.2.2.1
    have ho := F.2.2.2.2.2.1
    generalize mC μ = cc at hm ho
    simp only [eSt, List.mem_cons, List.not_mem_nil, or_false, Prod.mk.injEq] at hm
    rcases hm with ⟨rfl, rfl, rfl⟩ | ⟨rfl, rfl, rfl⟩
    · obtain ⟨cf, kf, fi, f, a, cell, f1, f2, f3, f4, f5, f6, f7, f8⟩ := hK.2.2.2.1
      have := hc (show 2 < gX m by omega)
      simp only [eW, List.map_cons] at this
      rw [show mv ad (.ref 2) = .ref G.2.2.2.2 from congrArg Value.ref o.1.2.2.2.2.2.2.2.2.2.2] at this
      exact W.gets F.1 F.2.1 ho (hts _ tFS.1) f1 f2 f3 f4 (by rw [hfr a (Nat.lt_of_not_le f8)]; exact f5) (fun z => by rw [z] at f6; cases f6) f7 rfl hd this
    · obtain ⟨cf, kf, fi, f, a, cell, f1, f2, f3, f4, f5, f6, f7, f8⟩ := hK.2.2.2.2.1
      have := hc (show 1 < gX m by omega)
      simp only [eW, List.map_cons] at this
      rw [show mv ad (.ref 1) = .ref G.2.2.2.1 from congrArg Value.ref o.1.2.2.2.2.2.2.2.2.2.1] at this
      exact W.gets F.1 F.2.1 ho (hts _ tFS.2) f1 f2 f3 f4 (by rw [hfr a (Nat.lt_of_not_le f8)]; exact f5) (fun z => by rw [z] at f6; cases f6) f7 rfl hd this
  · cases ha
def wMa (t : Nat × Nat × Nat) : Cond := .methodLink (cN t.1) t.2.1 (if t.2.2 = 0 then Lib.Math.max.name else if t.2.2 = 1 then Lib.Math.min.name else if t.2.2 = 2 then Lib.Math.abs.name else Lib.MathLoose.max_long.x)
theorem tMa : ∀ t ∈ eMa, wMa t ∈ gtbl := sub_of wMa eMa (by decide +kernel) (by decide +kernel)
theorem tMaS : Cond.static Lib.Math.max.name ∈ gtbl ∧ Cond.static Lib.Math.min.name ∈ gtbl ∧ Cond.static Lib.Math.abs.name ∈ gtbl ∧ Cond.static Lib.MathLoose.max_long.x ∈ gtbl ∧ Cond.initialized "java/lang/Math" ∈ gtbl := by
  have h : ∀ w ∈ [Cond.static Lib.Math.max.name, Cond.static Lib.Math.min.name, Cond.static Lib.Math.abs.name, Cond.static Lib.MathLoose.max_long.x, Cond.initialized "java/lang/Math"], tables_1.contains w = true ∧ goodWord w = true := by decide +kernel
  exact ⟨g_of (List.contains_iff_mem.mp (h _ (by simp)).1) (h _ (by simp)).2, g_of (List.contains_iff_mem.mp (h _ (by simp)).1) (h _ (by simp)).2, g_of (List.contains_iff_mem.mp (h _ (by simp)).1) (h _ (by simp)).2, g_of (List.contains_iff_mem.mp (h _ (by simp)).1) (h _ (by simp)).2, g_of (List.contains_iff_mem.mp (h _ (by simp)).1) (h _ (by simp)).2⟩
theorem tMaC : Cond.code Lib.Math.max.name Lib.Math.max.code 2 (some .int) ∈ gtbl ∧ Cond.code Lib.Math.min.name Lib.Math.min.code 2 (some .int) ∈ gtbl ∧ Cond.code Lib.Math.abs.name Lib.Math.abs.code 1 (some .int) ∈ gtbl ∧ Cond.code Lib.MathLoose.max_long.x Lib.MathLoose.max_long.code 4 (some .long) ∈ gtbl := by
  have h : ∀ w ∈ [Cond.code Lib.Math.max.name Lib.Math.max.code 2 (some .int), Cond.code Lib.Math.min.name Lib.Math.min.code 2 (some .int), Cond.code Lib.Math.abs.name Lib.Math.abs.code 1 (some .int), Cond.code Lib.MathLoose.max_long.x Lib.MathLoose.max_long.code 4 (some .long)], tables_1.contains w = true := by decide +kernel
  exact ⟨g_of (List.contains_iff_mem.mp (h _ (by simp))) rfl, g_of (List.contains_iff_mem.mp (h _ (by simp))) rfl, g_of (List.contains_iff_mem.mp (h _ (by simp))) rfl, g_of (List.contains_iff_mem.mp (h _ (by simp))) rfl⟩
theorem sn_Math (F : FR G p s mid args meth c μ) {k d : Nat} (hd : decode (mB μ) pc = .ok (.invokestatic k, 3)) (hR : d ≤ R.frames) (hL : 40 * d ≤ R.locals) (hc1 : gH m - h0 ≤ R.cells) (hc2 : gS m - s0 ≤ R.slots)
    (ha : eMath (aRes (mC μ) k) d pc ls st m = some (pc', ls', st', m')) (o : eO G s μ m ad ls st H locs la) (kk : eK G p l e R s mid args below meth c Q h0 s0 μ m ad m' pc' ls' st') : eW p l e R s mid args below meth c Q h0 s0 m ad H locs la pc st := by
  have hts := F.2.2.2.2.2.2.1
  have hml : c.maxLocals = la.size := by rw [F.2.2.1, o.2.1.1, o.2.2.1]
  have rm : ∀ r : List Value, eCat r ≤ 8 → ((r.map (mv ad)).map fun v => v.category).sum ≤ 8 := fun r h => by
    have := eCat_mv ad r
    unfold eCat at this h
    omega
  unfold eMath at ha
  split at ha
  · rename_i y x r hr
    split at ha
    · rename_i h
      obtain ⟨rfl, rfl, rfl, rfl⟩ := eGo_inj ha
      have hl : (wMa (mC μ, k, 0)).before args s = true := hts _ (tMa _ (eR2_mem hr))
      have := rm _ h.2
      exact va_mmax F.1 F.2.1 hml F.2.2.2.2.2.1 hl (hts _ tMaS.1) (hts _ tMaS.2.2.2.2) (hts _ tMaC.1) (by omega) (by omega) hc1 hc2 hd (kk ad H locs la (fun _ _ => rfl) (o.pop.pop.push trivial))
    · cases ha
  · rename_i y x r hr
    split at ha
    · rename_i h
      obtain ⟨rfl, rfl, rfl, rfl⟩ := eGo_inj ha
      have hl : (wMa (mC μ, k, 1)).before args s = true := hts _ (tMa _ (eR2_mem hr))
      have := rm _ h.2
      exact va_mmin F.1 F.2.1 hml F.2.2.2.2.2.1 hl (hts _ tMaS.2.1) (hts _ tMaS.2.2.2.2) (hts _ tMaC.2.1) (by omega) (by omega) hc1 hc2 hd (kk ad H locs la (fun _ _ => rfl) (o.pop.pop.push trivial))
    · cases ha
  · rename_i x r hr
    split at ha
    · rename_i h
      obtain ⟨rfl, rfl, rfl, rfl⟩ := eGo_inj ha
      have hl : (wMa (mC μ, k, 2)).before args s = true := hts _ (tMa _ (eR2_mem hr))
      have := rm _ h.2
      exact va_mabs F.1 F.2.1 hml F.2.2.2.2.2.1 hl (hts _ tMaS.2.2.1) (hts _ tMaS.2.2.2.2) (hts _ tMaC.2.2.1) (by omega) (by omega) hc1 hc2 hd (kk ad H locs la (fun _ _ => rfl) (o.pop.push trivial))
    · cases ha
  · rename_i y x r hr
    split at ha
    · rename_i h
      obtain ⟨rfl, rfl, rfl, rfl⟩ := eGo_inj ha
      have hl : (wMa (mC μ, k, 3)).before args s = true := hts _ (tMa _ (eR2_mem hr))
      have := rm _ h.2
      exact va_mmax_long F.1 F.2.1 hml F.2.2.2.2.2.1 hl (hts _ tMaS.2.2.2.1) (hts _ tMaS.2.2.2.2) (hts _ tMaC.2.2.2) (by omega) (by omega) hc1 hc2 hd (kk ad H locs la (fun _ _ => rfl) (o.pop.pop.push trivial))
    · cases ha
  · cases ha
end STEP4
