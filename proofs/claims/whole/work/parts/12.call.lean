section CALLS
variable {G : eG} {p : Program} {l : Launch} {e : Env} {R : Room} {s : State} {mid : MethodId} {args : Array Value} {below : List Frame} {meth : Method} {c : Code} {Q : State → Prop} {h0 s0 μ : Nat}
variable {pc : Nat} {ls st : List Value} {m m1 : eM} {ad : Nat → Nat} {H : Heap} {locs : List Loc} {la : Array Slot}
/-- the receiver's cell -/
theorem eRecv (F : FR G p s mid args meth c μ) (h : Hp G s m ad H) {a : Nat} (ha : a < gX m) (hk : kd a < 20) : ∃ cellB : Cell, H[ad a]? = some cellB ∧ cellB.vm.isStatics = false ∧ s.vm.findClass (cN (kd a)) = some cellB.cls := by
  rcases h.1 a ha with ⟨-, q, hq, cell, c1, c2, c3, -⟩ | ⟨h1, -⟩
  · have hlt : kd a < 11 := (List.getElem?_eq_some_iff.mp hq).1
    obtain ⟨q', q1, q2, -, -⟩ := tCl (kd a) hlt
    cases hq.symm.trans q1
    have hA := (F.2.2.2.2.2.2.2.1.1 _ q hq).2.1
    rw [q2] at hA
    exact ⟨cell, c1, by rw [c3]; rfl, by rw [c2]; exact hA⟩
  · omega
theorem eRunCall (F : FR G p s mid args meth c μ) {k kind y d mc ms : Nat} {i : Instr} {v : Option Value} (hd : decode (mB μ) pc = .ok (i, 3)) (hi : (i = .invokevirtual k ∧ kind = 0) ∨ (i = .invokespecial k ∧ kind = 1) ∨ (i = .invokestatic k ∧ kind = 2)) (hres : mRes (mC μ) k = some y ∨ mRn (mC μ) k = some y) (hy : y < eNC) {as rest : List Value} (hst : st = as.reverse ++ rest) (hok : eOK y kind as rest = true)
    (hM : Met l (mN y) (eWs y) (eRm d mc ms) (ePc G as m ad) (eQc G v m ad m1) mc ms (fun q => G.2.1 ≤ q)) (hR : d + 1 ≤ R.frames) (hL : 40 * (d + 1) ≤ R.locals) (o : eO G s μ m ad ls st H locs la) (hf : gH m - h0 + mc ≤ R.cells ∧ gS m - s0 + ms ≤ R.slots) :
    va_Run p l e R s mid args below meth c H locs (gH m - h0) (gS m - s0) mc ms (F0 mid pc la (st.map (mv ad))) (rest.map (mv ad)) (eQc G v m ad m1 (as.map (mv ad)).toArray) (fun q => G.2.1 ≤ q) := by
  have hT := tMs (Nat.lt_succ_of_lt hy)
  have F' := F
  obtain ⟨hx, hb, hml, -, -, hown, hts, hK, -⟩ := F'
  have hG := eWs_good hy
  have hini : (Cond.initialized (mN y).cls).before args s = true := by rw [hT.1]; exact hts _ (tIn _ hT.2.2.2.2.2.2.1)
  have hpc : ∀ U : State, U.heap = H → s.WarmedH U.vm → ePc G as m ad (as.map (mv ad)).toArray U := fun U hU hW => ⟨rfl, Kn.moved hW hK, by rw [hU]; exact o.1.moved hW.alike (by rw [hU]; exact Nat.le_refl _)⟩
  have hRR : (eRm d mc ms).frames + 1 ≤ R.frames ∧ 8 + (mL y + 11) + (eRm d mc ms).locals ≤ R.locals := ⟨hR, by have := hT.2.2.2.2.1; show 8 + (mL y + 11) + 40 * d ≤ _; omega⟩
  have hnm : ∀ n, n = (if mS y then mP y else mP y - 1) → (mN y).cls ≠ "java/lang/invoke/MethodHandle" ∧ (mN y).cls ≠ "java/lang/invoke/VarHandle" ∧ (parseMethodDescriptor (mN y).desc).map (fun d => d.parameters.length) = some n := fun n hn => ⟨hT.2.1, hT.2.2.1, hn ▸ hT.2.2.2.1⟩
  have S : CallFix p mid c (mB μ) (mL μ) s args gtbl (cN (mC μ)) := ⟨hx, hb, hml, hown, hts⟩
  have hsz : (F0 mid pc la (st.map (mv ad))).locals.size = mL μ := o.2.1.1.trans o.2.2.1
  have hcat := fun (r : List Value) => eCat_mv ad r
  unfold eOK at hok
  simp only [Bool.and_eq_true, decide_eq_true_eq, beq_iff_eq] at hok
  obtain ⟨⟨⟨⟨k1, k2⟩, k3⟩, k4⟩, k5⟩ := hok
  have hW : 2 * (F0 mid pc la (st.map (mv ad))).monitorRoom + ((rest.map (mv ad)).map fun v => v.category).sum ≤ 8 := by
    have := hcat rest
    unfold eCat at this k2
    show 2 * 0 + _ ≤ 8
    omega
  have hlink : (mRes (mC μ) k = some y ∧ (Cond.methodLink (cN (mC μ)) k (mN y)).before args s = true) ∨ va_Nw (.methodLinkNest (cN (mC μ)) k (mN y) "LiarsCock") s := by
    rcases hres with h | h
    · have h9 : (wMr (mC μ, k, y)).before args s = true := hts _ (tMr _ (eR2_mem h))
      exact Or.inl ⟨h, h9⟩
    · have h9 : va_Nw (wMn (mC μ, k, y)) s := hK.2.1 _ (eR2_mem h)
      exact Or.inr h9
  rcases hi with ⟨rfl, rfl⟩ | ⟨rfl, rfl⟩ | ⟨rfl, rfl⟩
  · rw [if_neg (by decide)] at k4
    simp only [Bool.and_eq_true, Bool.not_eq_true'] at k4
    obtain ⟨k4, k6⟩ := k4
    match as, k6, k1, hpc, hst, hM with
    | .ref a :: as2, k6, k1, hpc, hst, hM =>
      have k6 := of_decide_eq_true k6
      have hax : a < gX m := o.2.2.2.2.2 (.ref a) (by rw [hst]; simp)
      have hcell := eRecv F o.1 hax (by have := hT.2.2.2.2.2.2.1; omega)
      rw [k6, ← hT.1] at hcell
      have hp : PreV s H (mN y).cls (ad a) (ePc G (.ref a :: as2) m ad) (as2.map (mv ad)) := ⟨ePc_blind, hcell, hpc⟩
      have hn : (as2.map (mv ad)).length = mP y - 1 := by rw [List.length_map, ← k1]; rfl
      have hin : (Cond.instanceMethod (mN y)).before args s = true := hts _ (tInst' hy k4)
      have hsel : (Cond.selects (mN y).cls (mN y) (mN y)).before args s = true := by
        have hni : mIni y = false := by cases e : mIni y; rfl; rw [e] at k5; cases k5
        rcases tSel y hy k4 hni with z | z
        · exact hts _ (tPub y z)
        · exact hts _ (tPriv y z)
      have hstack : (F0 mid pc la (st.map (mv ad))).stack = (as2.map (mv ad)).reverse ++ .ref (ad a) :: rest.map (mv ad) := by
        show st.map _ = _
        rw [hst]
        simp [List.map_reverse, mv]
      rcases hlink with ⟨-, hl⟩ | hl
      · exact va_runV S hM ⟨callB_of (mP y - 1) hts hG rfl rfl rfl hini hl (hnm _ (by rw [k4]; rfl)) hRR, hin, hsel⟩ hp rfl hn hsz hstack hW hd hf
      · exact va_runVN S hM ⟨va_cnB (mP y - 1) hts hG rfl rfl rfl hl hini (hnm _ (by rw [k4]; rfl)) hRR, hin, hsel⟩ hp rfl hn hsz hstack hW hd hf
  · rw [if_neg (by decide)] at k4
    simp only [Bool.and_eq_true, Bool.not_eq_true'] at k4
    obtain ⟨k4, k6⟩ := k4
    match as, k6, k1, hpc, hst, hM with
    | .ref a :: as2, k6, k1, hpc, hst, hM =>
      have hp : PreS s H (ePc G (.ref a :: as2) m ad) (.ref (ad a) :: as2.map (mv ad)) := ⟨ePc_blind, hpc⟩
      have hn : (as2.map (mv ad)).length = mP y - 1 := by rw [List.length_map, ← k1]; rfl
      have hin : (Cond.instanceMethod (mN y)).before args s = true := hts _ (tInst' hy k4)
      have hni : mIni y = true := by rw [← k5]; rfl
      have hnam : (mN y).name = "<init>" := eq_of_beq hni
      have hret : mR y = none := hT.2.2.2.2.2.2.2.2 hni
      have hG' := hG
      have hw : eWs y = Cond.code (mN y) (mB y) (mL y) none :: gtbl := by unfold eWs; rw [hret]
      have hstack : (F0 mid pc la (st.map (mv ad))).stack = (as2.map (mv ad)).reverse ++ .ref (ad a) :: rest.map (mv ad) := by
        show st.map _ = _
        rw [hst]
        simp [List.map_reverse, mv]
      rcases hlink with ⟨-, hl⟩ | hl
      · exact va_runI S hM ⟨callB_of (mP y - 1) hts hG hw rfl rfl hini hl (hnm _ (by rw [k4]; rfl)) hRR, hnam, hin⟩ hp rfl hn hsz hstack hW hd hf
      · exact va_runIN S hM ⟨va_cnB (mP y - 1) hts hG hw rfl rfl hl hini (hnm _ (by rw [k4]; rfl)) hRR, hnam, hin⟩ hp rfl hn hsz hstack hW hd hf
  · rw [if_pos rfl] at k4
    have hp : PreS s H (ePc G as m ad) (as.map (mv ad)) := ⟨ePc_blind, hpc⟩
    have hn : (as.map (mv ad)).length = mP y := by rw [List.length_map, ← k1]
    have hstt : (Cond.static (mN y)).before args s = true := hts _ (tStat' hy k4)
    have hstack : (F0 mid pc la (st.map (mv ad))).stack = (as.map (mv ad)).reverse ++ rest.map (mv ad) := by
      show st.map _ = _
      rw [hst]
      simp [List.map_reverse]
    rcases hlink with ⟨-, hl⟩ | hl
    · exact va_runS S hM ⟨callB_of (mP y) hts hG rfl rfl rfl hini hl (hnm _ (by rw [k4]; rfl)) hRR, hstt⟩ hp rfl hn hsz hstack hW hd hf
    · exact va_runSN S hM ⟨va_cnB (mP y) hts hG rfl rfl rfl hl hini (hnm _ (by rw [k4]; rfl)) hRR, hstt, trivial⟩ hp rfl hn hsz hstack hW hd hf
/-- behind a call -/
theorem eBack {v : Option Value} {as rest : List Value} {mc ms : Nat} (hmo : eMono m m1) (hc : mc = gH m1 - gH m) (hs : ms = gS m1 - gS m) (hh : h0 ≤ gH m) (hs0 : s0 ≤ gS m) (hst : st = as.reverse ++ rest) (hv : ∀ w, v = some w → eNr0 w) (o : eO G s μ m ad ls st H locs la)
    (hr : va_Run p l e R s mid args below meth c H locs (gH m - h0) (gS m - s0) mc ms (F0 mid pc la (st.map (mv ad))) (rest.map (mv ad)) (eQc G v m ad m1 (as.map (mv ad)).toArray) (fun q => G.2.1 ≤ q))
    (kk : ∀ (ad' : Nat → Nat) (H' : Heap) (locs' : List Loc), (∀ a, a < gX m → ad' a = ad a) → eO G s μ m1 ad' ls (v.toList ++ rest) H' locs' la → eW p l e R s mid args below meth c Q h0 s0 m1 ad' H' locs' la (pc + 3) (v.toList ++ rest)) :
    eW p l e R s mid args below meth c Q h0 s0 m ad H locs la pc st := by
  intro T hT X
  obtain ⟨w, st₀, t, T', L, e0, X', hL, e1, e2, ⟨hw, hz, ad', hag, hHp⟩, stp⟩ := hr T hT X
  have hw : w = v := Outcome.returned.inj hw
  subst hw
  have hal : t.vm.Alike s.vm := by rw [← e2]; exact X'.warmed.alike.symm
  have hzz : s.heap.size ≤ T'.heap.size := by have := o.1.2.2.2.1; rw [e0] at hz; rw [e1]; exact Nat.le_trans this hz
  have hH1 : Hp G s m1 ad' T'.heap := by rw [e1]; exact hHp.moved hal (by rw [← e1]; exact hzz)
  have hvl : (w.toList).map (mv ad') = w.toList := by
    cases w with
    | none => rfl
    | some z => show [mv ad' z] = [z]; rw [(hv z rfl).1]
  have o1 : eO G s μ m1 ad' ls (w.toList ++ rest) T'.heap (locs ++ L) la := by
    refine ⟨hH1, o.2.1.mono fun x hx => mv_agree hag (o.2.2.2.2.1 x hx), o.2.2.1, fun q hq => ?_, fun x hx => hmo.rv (o.2.2.2.2.1 x hx), fun x hx => ?_⟩
    · rcases List.mem_append.mp hq with hq | hq
      · exact o.2.2.2.1 q hq
      · exact hL q hq
    · rcases List.mem_append.mp hx with hx | hx
      · cases w with
        | none => cases hx
        | some z => rw [List.mem_singleton.mp hx]; exact (hv z rfl).2 _
      · exact hmo.rv (o.2.2.2.2.2 x (by rw [hst]; exact List.mem_append_right _ hx))
  have hk := kk ad' T'.heap (locs ++ L) hag o1
  have hmap : (w.toList ++ rest).map (mv ad') = w.toList ++ rest.map (mv ad) := by
    rw [List.map_append, hvl]
    congr 1
    exact List.map_congr_left fun x hx => mv_agree hag (o.2.2.2.2.2 x (by rw [hst]; exact List.mem_append_right _ hx))
  simp only [eW] at hk
  rw [hmap] at hk
  have hk2 : W p l e R s mid args below meth c T'.heap (locs ++ L) (gH m - h0 + mc) (gS m - s0 + ms) Q (F0 mid (pc + 3) la (w.toList ++ rest.map (mv ad))) := W.cs (by have := hmo.1; omega) (by have := hmo.2.1; omega) hk
  obtain ⟨t2, a1, b1⟩ := hk2 T' rfl X'
  exact ⟨t2, stp t2 a1, b1⟩
end CALLS
/-- an answer names no cell -/
theorem run_nr : ∀ (n d μ pc : Nat) (ls st : List Value) (m : eM) (v : Option Value) (m' : eM), run n d μ pc ls st m = some (some v, m') → ∀ w, v = some w → eNr0 w
  | 0, _, _, _, _, _, _, _, _, h => by cases h
  | n + 1, d, μ, pc, ls, st, m, v, m', h => by
    have ih := run_nr n
    unfold run at h
    split at h
    · cases h
    · rename_i i len hd
      split at h
      · split at h
        · rename_i v' hfin
          cases h
          exact eFin_nr hfin
        · split at h
          · split at h
            · cases h
            · split at h
              · split at h
                · exact ih _ _ _ _ _ _ _ _ h
                · split at h
                  · cases h; intro w hw; cases hw; exact eNr_i _
                  · cases h
                · cases h
              · cases h
          · split at h
            · cases h
            · split at h
              · exact ih _ _ _ _ _ _ _ _ h
              · cases h
      · cases h
