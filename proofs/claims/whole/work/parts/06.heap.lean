/-! ===== instructions that read and write cells ===== -/
theorem slot_set {cell : Cell} {i j : Nat} {v : Value} (h : i < cell.slots.size) : (cell.setSlot i v).slots[j]? = if j = i then some v else cell.slots[j]? := by
  by_cases e : j = i
  · subst e
    rw [if_pos rfl]
    exact Cell.slots_setSlot_self _ h
  · rw [if_neg e]
    simp [Cell.setSlot, Array.getElem?_setIfInBounds, Ne.symm e]
theorem eArr {G : eG} {s : State} {m : eM} {ad : Nat → Nat} {H : Heap} {a : Nat} (h : Hp G s m ad H) (ha : a < gX m) (hk : 20 ≤ kd a) : kd a ≤ 24 ∧ ∃ cell : Cell, H[ad a]? = some cell ∧ s.isArrayOf cell (eTy (kd a)) ∧ cell.vm ≠ .unknown ∧ aln m a ≤ cell.slots.size ∧ cell.slots.size.toInt32 = (aln m a).toInt32 ∧ (∀ j, j < aln m a → cell.slots[j]? = some (mv ad (gE m a j (kd a)))) ∧ (kd a = 24 → va_RA s cell.cls (.object "LiarsCock$State")) := by
  rcases h.1 a ha with ⟨h1, -⟩ | ⟨-, h2⟩
  · omega
  · exact h2
theorem eIn_spec {m : eM} {a : Nat} {j : Int32} (h : eIn m a j = true) : ¬ j < 0 ∧ j.toNatClampNeg < aln m a := by
  unfold eIn at h
  have h := of_decide_eq_true h
  exact ⟨fun z => h (Or.inl z), Nat.lt_of_not_le fun z => h (Or.inr z)⟩
section STEP2
variable {G : eG} {p : Program} {l : Launch} {e : Env} {R : Room} {s : State} {mid : MethodId} {args : Array Value} {below : List Frame} {meth : Method} {c : Code} {Q : State → Prop} {h0 s0 μ : Nat}
variable {pc pc' npc : Nat} {ls ls' st st' : List Value} {m m' : eM} {ad : Nat → Nat} {H : Heap} {locs : List Loc} {la : Array Slot}
theorem sn_Ald {k : Nat} (hk : 20 ≤ k) (row : ∀ (cell : Cell) (a : Addr) (j : Int32) (v : Value) (rest : List Value), H[a]? = some cell → s.isArrayOf cell (eTy k) → cell.vm ≠ .unknown → ¬ (j < 0 ∨ cell.slots.size ≤ j.toNatClampNeg) → cell.slots[j.toNatClampNeg]? = some v → W p l e R s mid args below meth c H locs (gH m - h0) (gS m - s0) Q (F0 mid (pc + 1) la (v :: rest)) → W p l e R s mid args below meth c H locs (gH m - h0) (gS m - s0) Q (F0 mid pc la (.int j :: .ref a :: rest)))
    (ha : eAld k pc ls st m = some (pc', ls', st', m')) (o : eO G s μ m ad ls st H locs la) (kk : eK G p l e R s mid args below meth c Q h0 s0 μ m ad m' pc' ls' st') : eW p l e R s mid args below meth c Q h0 s0 m ad H locs la pc st := by
  unfold eAld at ha
  split at ha
  · split at ha
    · rename_i j a r h
      obtain ⟨hka, hin, -⟩ := h
      obtain ⟨rfl, rfl, rfl, rfl⟩ := eGo_inj ha
      obtain ⟨i1, i2⟩ := eIn_spec hin
      obtain ⟨-, cell, c1, c2, c3, c4, -, c6, -⟩ := eArr o.1 o.pop.top (hka ▸ hk)
      rw [hka] at c2 c6
      refine row cell _ j _ _ c1 c2 c3 (fun z => by rcases z with z | z; exact i1 z; omega) (c6 _ i2) (kk ad H locs la (fun _ _ => rfl) (o.pop.pop.push ?_))
      split
      · trivial
      · split
        · cases e9 : gR m a j.toNatClampNeg with
          | none => trivial
          | some b => exact o.1.2.2.2.2.2.2.2.1 _ _ _ e9
        · trivial
    · cases ha
  · cases ha
/-- a store into an array of ints or of what narrows to ints -/
theorem sn_Ast {k : Nat} (hk : 20 ≤ k) (hk2 : k ≠ 21 ∧ k ≠ 24) (f : Int32 → Int32) (row : ∀ (cell : Cell) (a : Addr) (j x : Int32) (rest : List Value), H[a]? = some cell → s.isArrayOf cell (eTy k) → cell.vm ≠ .unknown → ¬ (j < 0 ∨ cell.slots.size ≤ j.toNatClampNeg) →
      (∀ H' : Heap, H'[a]? = some (cell.setSlot j.toNatClampNeg (.int (f x))) → H'.size = H.size → (∀ q, q ≠ a → H'[q]? = H[q]?) → W p l e R s mid args below meth c H' (locs ++ [⟨a, j.toNatClampNeg⟩]) (gH m - h0) (gS m - s0) Q (F0 mid (pc + 1) la rest)) → W p l e R s mid args below meth c H locs (gH m - h0) (gS m - s0) Q (F0 mid pc la (.int x :: .int j :: .ref a :: rest)))
    (ha : eAst k pc f ls st m = some (pc', ls', st', m')) (o : eO G s μ m ad ls st H locs la) (kk : eK G p l e R s mid args below meth c Q h0 s0 μ m ad m' pc' ls' st') : eW p l e R s mid args below meth c Q h0 s0 m ad H locs la pc st := by
  unfold eAst at ha
  split at ha
  · split at ha
    · rename_i x j a r h
      obtain ⟨hka, hin, h3⟩ := h
      obtain ⟨rfl, rfl, rfl, rfl⟩ := eGo_inj ha
      obtain ⟨i1, i2⟩ := eIn_spec hin
      have hax : a < gX m := o.pop.pop.top
      obtain ⟨d1, cell, c1, c2, c3, c4, c5, c6, c7⟩ := eArr o.1 hax (hka ▸ hk)
      rw [hka] at c2
      refine row cell _ j x _ c1 c2 c3 (fun z => by rcases z with z | z; exact i1 z; omega) fun H' e1 e2 e3 => ?_
      refine kk ad H' _ la (fun _ _ => rfl) ⟨Hp.store (a := a) o.1 rfl rfl h3 hax (fun b hb => ⟨?_, rfl, rfl⟩) e2 e3 ?_ (fun i b hb => o.1.2.2.2.2.2.2.2.1 _ _ _ hb), o.2.1, o.2.2.1, ?_, o.2.2.2.2.1, fun v hv => o.pop.pop.pop.2.2.2.2.2 v hv⟩
      · funext i
        exact if_neg fun z => hb z.1
      · refine Or.inr ⟨hka ▸ hk, d1, _, e1, by rw [hka]; exact c2, c3, by rw [k2_slotsz]; exact c4, by rw [k2_slotsz]; exact c5, fun i hi => ?_, fun z => absurd (hka ▸ z) hk2.2⟩
        rw [slot_set (by omega)]
        have hg : gE (sI m a j.toNatClampNeg (f x)) a i (kd a) = if i = j.toNatClampNeg then .int (f x) else gE m a i (kd a) := by
          unfold gE
          rw [hka, if_neg hk2.1, if_neg hk2.2, if_neg hk2.1, if_neg hk2.2]
          show Value.int (if a = a ∧ i = j.toNatClampNeg then f x else gI m a i) = _
          by_cases e9 : i = j.toNatClampNeg
          · rw [if_pos ⟨rfl, e9⟩, if_pos e9]
          · rw [if_neg (fun z => e9 z.2), if_neg e9]
        rw [hg]
        split
        · rfl
        · exact c6 i hi
      · intro q hq
        rcases List.mem_append.mp hq with hq | hq
        · exact o.2.2.2.1 q hq
        · rw [List.mem_singleton.mp hq]
          exact o.1.2.2.1 a h3 hax
    · cases ha
  · cases ha
theorem sn_AstL (row : ∀ (cell : Cell) (a : Addr) (j : Int32) (x : Int64) (rest : List Value), H[a]? = some cell → s.isArrayOf cell .long → cell.vm ≠ .unknown → ¬ (j < 0 ∨ cell.slots.size ≤ j.toNatClampNeg) →
      (∀ H' : Heap, H'[a]? = some (cell.setSlot j.toNatClampNeg (.long x)) → H'.size = H.size → (∀ q, q ≠ a → H'[q]? = H[q]?) → W p l e R s mid args below meth c H' (locs ++ [⟨a, j.toNatClampNeg⟩]) (gH m - h0) (gS m - s0) Q (F0 mid (pc + 1) la rest)) → W p l e R s mid args below meth c H locs (gH m - h0) (gS m - s0) Q (F0 mid pc la (.long x :: .int j :: .ref a :: rest)))
    (ha : eAstL pc ls st m = some (pc', ls', st', m')) (o : eO G s μ m ad ls st H locs la) (kk : eK G p l e R s mid args below meth c Q h0 s0 μ m ad m' pc' ls' st') : eW p l e R s mid args below meth c Q h0 s0 m ad H locs la pc st := by
  unfold eAstL at ha
  split at ha
  · split at ha
    · rename_i x j a r h
      obtain ⟨hka, hin, h3⟩ := h
      obtain ⟨rfl, rfl, rfl, rfl⟩ := eGo_inj ha
      obtain ⟨i1, i2⟩ := eIn_spec hin
      have hax : a < gX m := o.pop.pop.top
      obtain ⟨d1, cell, c1, c2, c3, c4, c5, c6, c7⟩ := eArr o.1 hax (by omega)
      rw [hka] at c2
      refine row cell _ j x _ c1 c2 c3 (fun z => by rcases z with z | z; exact i1 z; omega) fun H' e1 e2 e3 => ?_
      refine kk ad H' _ la (fun _ _ => rfl) ⟨Hp.store (a := a) o.1 rfl rfl h3 hax (fun b hb => ⟨rfl, ?_, rfl⟩) e2 e3 ?_ (fun i b hb => o.1.2.2.2.2.2.2.2.1 _ _ _ hb), o.2.1, o.2.2.1, ?_, o.2.2.2.2.1, fun v hv => o.pop.pop.pop.2.2.2.2.2 v hv⟩
      · funext i
        exact if_neg fun z => hb z.1
      · refine Or.inr ⟨by omega, d1, _, e1, by rw [hka]; exact c2, c3, by rw [k2_slotsz]; exact c4, by rw [k2_slotsz]; exact c5, fun i hi => ?_, fun z => by omega⟩
        rw [slot_set (by omega)]
        have hg : gE (sL m a j.toNatClampNeg x) a i (kd a) = if i = j.toNatClampNeg then .long x else gE m a i (kd a) := by
          unfold gE
          rw [hka, if_pos rfl, if_pos rfl]
          show Value.long (if a = a ∧ i = j.toNatClampNeg then x else gL m a i) = _
          by_cases e9 : i = j.toNatClampNeg
          · rw [if_pos ⟨rfl, e9⟩, if_pos e9]
          · rw [if_neg (fun z => e9 z.2), if_neg e9]
        rw [hg]
        split
        · rfl
        · exact c6 i hi
      · intro q hq
        rcases List.mem_append.mp hq with hq | hq
        · exact o.2.2.2.1 q hq
        · rw [List.mem_singleton.mp hq]
          exact o.1.2.2.1 a h3 hax
    · cases ha
  · cases ha
theorem sn_Alen (row : ∀ (cell : Cell) (a : Addr) (ty : FieldType) (n : Int32) (rest : List Value), H[a]? = some cell → s.isArrayOf cell ty → cell.slots.size.toInt32 = n → W p l e R s mid args below meth c H locs (gH m - h0) (gS m - s0) Q (F0 mid (pc + 1) la (.int n :: rest)) → W p l e R s mid args below meth c H locs (gH m - h0) (gS m - s0) Q (F0 mid pc la (.ref a :: rest)))
    (ha : eAlen pc ls st m = some (pc', ls', st', m')) (o : eO G s μ m ad ls st H locs la) (kk : eK G p l e R s mid args below meth c Q h0 s0 μ m ad m' pc' ls' st') : eW p l e R s mid args below meth c Q h0 s0 m ad H locs la pc st := by
  unfold eAlen at ha
  split at ha
  · split at ha
    · rename_i a r h
      obtain ⟨rfl, rfl, rfl, rfl⟩ := eGo_inj ha
      obtain ⟨-, cell, c1, c2, c3, c4, c5, c6, -⟩ := eArr o.1 o.top h.1
      exact row cell _ _ _ _ c1 c2 c5 (kk ad H locs la (fun _ _ => rfl) (o.pop.push trivial))
    · cases ha
  · cases ha
theorem sn_Dup (row : ∀ (v : Value) (rest : List Value), v.category = 1 → W p l e R s mid args below meth c H locs (gH m - h0) (gS m - s0) Q (F0 mid (pc + 1) la (v :: v :: rest)) → W p l e R s mid args below meth c H locs (gH m - h0) (gS m - s0) Q (F0 mid pc la (v :: rest)))
    (ha : eDup pc ls st m = some (pc', ls', st', m')) (o : eO G s μ m ad ls st H locs la) (kk : eK G p l e R s mid args below meth c Q h0 s0 μ m ad m' pc' ls' st') : eW p l e R s mid args below meth c Q h0 s0 m ad H locs la pc st := by
  unfold eDup at ha
  split at ha
  · split at ha
    · rename_i v r h
      obtain ⟨rfl, rfl, rfl, rfl⟩ := eGo_inj ha
      exact row _ _ (by rw [mv_cat]; exact h) (kk ad H locs la (fun _ _ => rfl) (o.push o.top))
    · cases ha
  · cases ha
theorem sn_Dup2 (row2 : ∀ (v : Value) (rest : List Value), v.category = 2 → W p l e R s mid args below meth c H locs (gH m - h0) (gS m - s0) Q (F0 mid (pc + 1) la (v :: v :: rest)) → W p l e R s mid args below meth c H locs (gH m - h0) (gS m - s0) Q (F0 mid pc la (v :: rest)))
    (row11 : ∀ (v w : Value) (rest : List Value), v.category = 1 → w.category = 1 → W p l e R s mid args below meth c H locs (gH m - h0) (gS m - s0) Q (F0 mid (pc + 1) la (v :: w :: v :: w :: rest)) → W p l e R s mid args below meth c H locs (gH m - h0) (gS m - s0) Q (F0 mid pc la (v :: w :: rest)))
    (ha : eDup2 pc ls st m = some (pc', ls', st', m')) (o : eO G s μ m ad ls st H locs la) (kk : eK G p l e R s mid args below meth c Q h0 s0 μ m ad m' pc' ls' st') : eW p l e R s mid args below meth c Q h0 s0 m ad H locs la pc st := by
  unfold eDup2 at ha
  split at ha
  · split at ha
    · rename_i v r h
      obtain ⟨rfl, rfl, rfl, rfl⟩ := eGo_inj ha
      exact row2 _ _ (by rw [mv_cat]; exact h) (kk ad H locs la (fun _ _ => rfl) (o.push o.top))
    · rename_i v r h
      split at ha
      · rename_i w r2
        split at ha
        · rename_i h2
          obtain ⟨rfl, rfl, rfl, rfl⟩ := eGo_inj ha
          exact row11 _ _ _ (by rw [mv_cat]; rcases lv_cat v with z | z; exact z; exact absurd z h) (by rw [mv_cat]; exact h2) (kk ad H locs la (fun _ _ => rfl) ((o.push o.pop.top).push o.top))
        · cases ha
      · cases ha
  · cases ha
theorem sn_Pop (row : ∀ (v : Value) (rest : List Value), v.category = 1 → W p l e R s mid args below meth c H locs (gH m - h0) (gS m - s0) Q (F0 mid (pc + 1) la rest) → W p l e R s mid args below meth c H locs (gH m - h0) (gS m - s0) Q (F0 mid pc la (v :: rest)))
    (ha : ePop pc ls st m = some (pc', ls', st', m')) (o : eO G s μ m ad ls st H locs la) (kk : eK G p l e R s mid args below meth c Q h0 s0 μ m ad m' pc' ls' st') : eW p l e R s mid args below meth c Q h0 s0 m ad H locs la pc st := by
  unfold ePop at ha
  split at ha
  · split at ha
    · rename_i v r h
      obtain ⟨rfl, rfl, rfl, rfl⟩ := eGo_inj ha
      exact row _ _ (by rw [mv_cat]; exact h) (kk ad H locs la (fun _ _ => rfl) o.pop)
    · cases ha
  · cases ha
theorem sn_Nn (off : Int) (row : ∀ (x : Nat) (rest : List Value) (tgt : Nat), (pc : Int) + off = (tgt : Int) → W p l e R s mid args below meth c H locs (gH m - h0) (gS m - s0) Q (F0 mid tgt la rest) → W p l e R s mid args below meth c H locs (gH m - h0) (gS m - s0) Q (F0 mid pc la (.ref x :: rest)))
    (ha : eNn pc off ls st m = some (pc', ls', st', m')) (o : eO G s μ m ad ls st H locs la) (kk : eK G p l e R s mid args below meth c Q h0 s0 μ m ad m' pc' ls' st') : eW p l e R s mid args below meth c Q h0 s0 m ad H locs la pc st := by
  unfold eNn at ha
  split at ha
  · split at ha
    · rename_i h
      obtain ⟨rfl, rfl, rfl, rfl⟩ := eGo_inj ha
      exact row _ _ _ (eT_eq h) (kk ad H locs la (fun _ _ => rfl) o.pop)
    · cases ha
  · cases ha
theorem sn_Tab (dflt lo hi : Int) (offs : Array Int) (rowO : ∀ (x : Int32) (rest : List Value) (tgt : Nat), x.toInt < lo ∨ hi < x.toInt → (pc : Int) + dflt = (tgt : Int) → W p l e R s mid args below meth c H locs (gH m - h0) (gS m - s0) Q (F0 mid tgt la rest) → W p l e R s mid args below meth c H locs (gH m - h0) (gS m - s0) Q (F0 mid pc la (.int x :: rest)))
    (rowI : ∀ (x : Int32) (rest : List Value) (tgt : Nat) (off : Int), ¬ x.toInt < lo → ¬ hi < x.toInt → offs[(x.toInt - lo).toNat]? = some off → (pc : Int) + off = (tgt : Int) → W p l e R s mid args below meth c H locs (gH m - h0) (gS m - s0) Q (F0 mid tgt la rest) → W p l e R s mid args below meth c H locs (gH m - h0) (gS m - s0) Q (F0 mid pc la (.int x :: rest)))
    (ha : eTab dflt lo hi offs pc ls st m = some (pc', ls', st', m')) (o : eO G s μ m ad ls st H locs la) (kk : eK G p l e R s mid args below meth c Q h0 s0 μ m ad m' pc' ls' st') : eW p l e R s mid args below meth c Q h0 s0 m ad H locs la pc st := by
  unfold eTab at ha
  split at ha
  · split at ha
    · rename_i h
      unfold eJmp at ha
      split at ha
      · rename_i h2
        obtain ⟨rfl, rfl, rfl, rfl⟩ := eGo_inj ha
        exact rowO _ _ _ h (eT_eq h2) (kk ad H locs la (fun _ _ => rfl) o.pop)
      · cases ha
    · rename_i h
      split at ha
      · rename_i off ho
        unfold eJmp at ha
        split at ha
        · rename_i h2
          obtain ⟨rfl, rfl, rfl, rfl⟩ := eGo_inj ha
          exact rowI _ _ _ _ (fun z => h (Or.inl z)) (fun z => h (Or.inr z)) ho (eT_eq h2) (kk ad H locs la (fun _ _ => rfl) o.pop)
        · cases ha
      · cases ha
  · cases ha
theorem sn_Obj {b : Bool} {d : Nat} (row : ∀ (x : Nat) (rest : List Value), b = true → 1 ≤ d → eCat rest ≤ 8 → W p l e R s mid args below meth c H locs (gH m - h0) (gS m - s0) Q (F0 mid (pc + 3) la rest) → W p l e R s mid args below meth c H locs (gH m - h0) (gS m - s0) Q (F0 mid pc la (.ref x :: rest)))
    (ha : eObj b d pc ls st m = some (pc', ls', st', m')) (o : eO G s μ m ad ls st H locs la) (kk : eK G p l e R s mid args below meth c Q h0 s0 μ m ad m' pc' ls' st') : eW p l e R s mid args below meth c Q h0 s0 m ad H locs la pc st := by
  unfold eObj at ha
  split at ha
  · split at ha
    · rename_i h
      obtain ⟨rfl, rfl, rfl, rfl⟩ := eGo_inj ha
      exact row _ _ h.1 h.2.1 (by rw [eCat_mv]; exact h.2.2) (kk ad H locs la (fun _ _ => rfl) o.pop)
    · cases ha
  · cases ha
/-! ===== fields ===== -/
theorem eFl_of {ci j : Nat} {q : vw_C} (h : eCl[ci]? = some q) : eFl ci j = q.2.1 j := by unfold eFl; rw [h]
theorem eNf_of {ci : Nat} {q : vw_C} (h : eCl[ci]? = some q) : eNf ci = q.2.2 := by unfold eNf; rw [h]; rfl
theorem eKn_K (F : FR G p s mid args meth c μ) : va_K G.1 eCl [] s := ⟨F.2.2.2.2.2.2.2.1.1, fun k q h => by simp at h⟩
/-- an object's cell and one of its fields -/
theorem eFld (F : FR G p s mid args meth c μ) {a ci j : Nat} (h : Hp G s m ad H) (ha : a < gX m) (hka : kd a = ci) (hci : ci < 11) (hj : j < eNf ci) :
    ∃ (q : vw_C) (cf : ClassId) (kf : Class) (fi : Nat) (f : Field) (cell : Cell), eCl[ci]? = some q ∧ q.1 = cN ci ∧ q.2.2 = eNf ci ∧ q ∈ eCl ∧ s.fieldFound? (cN ci) (eFl ci j).2.1 (eFl ci j).2.2.1 = some (cf, kf, fi, f) ∧ f.slot = G.1.2 ci j ∧ f.isStatic = false ∧ H[ad a]? = some cell ∧ cell.cls = G.1.1 ci ∧ cell.vm = .none ∧ (∀ k, k < eNf ci → cell.slots[G.1.2 ci k]? = some (mv ad (gF m a k (eTyp ci k)))) ∧ ClassAt s (cN ci) (G.1.1 ci) ∧ (∀ x y, x < eNf ci → y < eNf ci → x ≠ y → G.1.2 ci x ≠ G.1.2 ci y) := by
  obtain ⟨q, q1, q2, q3, q4⟩ := tCl ci hci
  obtain ⟨hS, hA⟩ := F.2.2.2.2.2.2.2.1.1 ci q q1
  have hts := F.2.2.2.2.2.2.1
  have hin := tWs q q4
  obtain ⟨cf, kf, fi, f, f1, f2⟩ := hS j (q3 ▸ hj)
  obtain ⟨t1, -, -, t4⟩ := tTy ci hci j hj
  have hA' := hA
  obtain ⟨hfc, kC, hkC, -⟩ := hA
  have hst := (u_facts hfc hkC (u_lays hts hin (q3 ▸ hj)) f1).1
  rw [← eFl_of q1, t4] at f1
  rcases h.1 a ha with ⟨h1, q', hq', cell, c1, c2, c3, c4⟩ | ⟨h2, -⟩
  · rw [hka] at hq' c2 c4
    cases q1.symm.trans hq'
    refine ⟨q, cf, kf, fi, f, cell, q1, q2, q3, q4, f1, f2, hst, c1, c2, c3, fun k hk => c4 k (q3 ▸ hk), q2 ▸ hA', fun x y hx hy hne => ?_⟩
    exact va_apart (own := "") hts hin (fun k => eFt (eFl ci k).2.2.1 (eTyp ci k)) (fun k hk => by rw [← eFl_of q1]; exact (tTy ci hci k (q3 ▸ hk)).1) (tNm q q4) (eKn_K F) (show eCl[ci]? = some (q.1, q.2.1, q.2.2) from q1) x y (q3 ▸ hx) (q3 ▸ hy) hne
  · omega
theorem sn_GetF (F : FR G p s mid args meth c μ) {k : Nat} (hd : decode (mB μ) pc = .ok (.getfield k, 3))
    (ha : eGetF (fAny (mC μ) k) pc ls st m = some (pc', ls', st', m')) (o : eO G s μ m ad ls st H locs la) (kk : eK G p l e R s mid args below meth c Q h0 s0 μ m ad m' pc' ls' st') : eW p l e R s mid args below meth c Q h0 s0 m ad H locs la pc st := by
  unfold eGetF at ha
  split at ha
  · split at ha
    · rename_i ci j ty fin a r hf hka
      obtain ⟨hka, -⟩ := hka
      obtain ⟨rfl, rfl, rfl, rfl⟩ := eGo_inj ha
      have hax : a < gX m := o.top
      have hgo : eO G s μ m ad ls (gF m a j ty :: r) H locs la := o.pop.push (by
        unfold gF
        split
        · trivial
        · split
          · cases e9 : gR m a j with
            | none => trivial
            | some b => exact o.1.2.2.2.2.2.2.2.1 _ _ _ e9
          · trivial)
      have hcont := kk ad H locs la (fun _ _ => rfl) hgo
      unfold fAny at hf
      cases e1 : fRes (mC μ) k with
      | some t =>
        rw [e1] at hf
        cases hf
        have hm := eR2_mem e1
        have hk := tFr2 _ hm
        simp only [kFr, Bool.and_eq_true, decide_eq_true_eq] at hk
        obtain ⟨⟨⟨k1, k2⟩, k3⟩, k4⟩ := hk
        obtain ⟨q, cf, kf, fi, f, cell, -, -, -, -, f1, f2, f3, c1, c2, c3, c4, -, -⟩ := eFld F o.1 hax hka k1 k2
        have hl := F.2.2.2.2.2.2.1 _ (tFr _ hm)
        exact W.getf F.1 F.2.1 F.2.2.2.2.2.1 hl f1 f3 c1 (by rw [c3]; exact fun z => by cases z) (by rw [f2, c4 j k2, ← k3]) rfl rfl hd hcont
      | none =>
        rw [e1] at hf
        have hf : fRn (mC μ) k = some (ci, j, ty, fin) := hf
        have hm := eR2_mem hf
        have hk : kFr (mC μ, k, ci, j, ty, fin) = true := by rcases tFn2 _ hm with z | z <;> exact z.1
        simp only [kFr, Bool.and_eq_true, decide_eq_true_eq] at hk
        obtain ⟨⟨⟨k1, k2⟩, k3⟩, k4⟩ := hk
        obtain ⟨q, cf, kf, fi, f, cell, -, -, -, -, f1, f2, f3, c1, c2, c3, c4, -, -⟩ := eFld F o.1 hax hka k1 k2
        have hl : (wFn (mC μ, k, ci, j, ty, fin)).before args s = true := va_Nw.use rfl (F.2.2.2.2.2.2.2.1.2.2.1 _ hm)
        exact va_Wgetf F.1 F.2.1 F.2.2.2.2.2.1 hl f1 f3 c1 (by rw [c3]; exact fun z => by cases z) (by rw [f2, c4 j k2, ← k3]) rfl rfl hd hcont
    · cases ha
  · cases ha
theorem ePut_spec {a j ty : Nat} {v : Value} (h : ePut m a j ty v = some m') (hty : ty ≤ 4) {d : String} (hr : ty = 2 → isRefT (eFt d ty) = true) :
    (∀ g, narrow (eFt d ty) (mv g v) = mv g v ∧ fits (eFt d ty) (mv g v) = true) ∧ gF m' a j ty = v ∧ (∀ k t, k ≠ j → gF m' a k t = gF m a k t) ∧ True ∧ gX m' = gX m ∧ gH m' = gH m ∧ gS m' = gS m ∧ gN m' = gN m ∧ (∀ b, b ≠ a → gI m' b = gI m b ∧ gL m' b = gL m b ∧ gR m' b = gR m b) ∧ (∀ k b, gR m' a k = some b → gR m a k = some b ∨ v = .ref b) := by
  have sI_ok : ∀ (x : Int32), (ty = 0 ∨ ty = 3 ∨ ty = 4) → gF (sI m a j x) a j ty = .int x ∧ (∀ k t, k ≠ j → gF (sI m a j x) a k t = gF m a k t) ∧ (∀ b, b ≠ a → gI (sI m a j x) b = gI m b ∧ gL (sI m a j x) b = gL m b ∧ gR (sI m a j x) b = gR m b) := fun x ht => by
    refine ⟨?_, fun k t hk => ?_, fun b hb => ⟨funext fun i => if_neg fun z => hb z.1, rfl, rfl⟩⟩
    · unfold gF
      rw [if_neg (by omega), if_neg (by omega)]
      exact congrArg Value.int (if_pos ⟨rfl, rfl⟩)
    · unfold gF
      rw [show gI (sI m a j x) a k = gI m a k from if_neg fun z => hk z.2]
      rfl
  unfold ePut at h
  split at h
  · rename_i x
    split at h
    · rename_i h1
      cases h
      obtain ⟨a1, a2, a3⟩ := sI_ok x (Or.inl h1)
      subst h1
      exact ⟨fun g => ⟨rfl, rfl⟩, a1, a2, trivial, rfl, rfl, rfl, rfl, a3, fun k b z => Or.inl z⟩
    · split at h
      · rename_i h1
        split at h
        · rename_i h2
          cases h
          obtain ⟨a1, a2, a3⟩ := sI_ok x (Or.inr (Or.inl h1))
          subst h1
          refine ⟨fun g => ?_, a1, a2, trivial, rfl, rfl, rfl, rfl, a3, fun k b z => Or.inl z⟩
          rcases h2 with rfl | rfl
          · exact ⟨rfl, rfl⟩
          · exact ⟨rfl, rfl⟩
        · cases h
      · split at h
        · rename_i h1
          split at h
          · rename_i h2
            cases h
            obtain ⟨a1, a2, a3⟩ := sI_ok x (Or.inr (Or.inr h1))
            subst h1
            refine ⟨fun g => ⟨?_, ?_⟩, a1, a2, trivial, rfl, rfl, rfl, rfl, a3, fun k b z => Or.inl z⟩
            · show Value.int x.toUInt32.toUInt16.toUInt32.toInt32 = .int x
              have e0 : (0 : Int32).toInt = 0 := by decide
              have e1 : (65535 : Int32).toInt = 65535 := by decide
              have z1 := Int32.le_iff_toInt_le.mp h2.1
              have z2 := Int32.le_iff_toInt_le.mp h2.2
              rw [lg_i2c_small (by omega) (by omega)]
            · show (decide (0 ≤ x) && decide (x ≤ 65535)) = true
              simp [h2.1, h2.2]
          · cases h
        · cases h
  · rename_i x
    split at h
    · rename_i h1
      cases h
      subst h1
      refine ⟨fun g => ⟨rfl, rfl⟩, congrArg Value.long (if_pos ⟨rfl, rfl⟩), fun k t hk => ?_, trivial, rfl, rfl, rfl, rfl, fun b hb => ⟨rfl, funext fun i => if_neg fun z => hb z.1, rfl⟩, fun k b z => Or.inl z⟩
      unfold gF
      rw [show gL (sL m a j x) a k = gL m a k from if_neg fun z => hk z.2]
      rfl
    · cases h
  · rename_i b
    split at h
    · rename_i h1
      cases h
      have hr := hr h1
      subst h1
      refine ⟨fun g => ?_, ?_, fun k t hk => ?_, trivial, rfl, rfl, rfl, rfl, fun b hb => ⟨rfl, rfl, funext fun i => if_neg fun z => hb z.1⟩, fun k b' z => ?_⟩
      · generalize eFt d 2 = t at hr
        cases t <;> first | exact ⟨rfl, rfl⟩ | cases hr
      · show vr (if a = a ∧ j = j then some b else gR m a j) = .ref b
        rw [if_pos ⟨rfl, rfl⟩]; rfl
      · unfold gF
        rw [show gR (sR m a j (some b)) a k = gR m a k from if_neg fun z => hk z.2]
        rfl
      · have z : (if a = a ∧ k = j then some b else gR m a k) = some b' := z
        split at z
        · cases z; exact Or.inr rfl
        · exact Or.inl z
    · cases h
  · cases h
end STEP2
