/-! ===== the memory and the machine's heap ===== -/
def mv (f : Nat → Nat) : Value → Value
  | .ref a => .ref (f a)
  | v => v
theorem mv_cat (f : Nat → Nat) (v : Value) : (mv f v).category = v.category := by cases v <;> rfl
theorem mv_vr (f : Nat → Nat) (o : Option Nat) : mv f (vr o) = vr (o.map f) := by cases o <;> rfl
theorem eCat_mv (f : Nat → Nat) (vs : List Value) : eCat (vs.map (mv f)) = eCat vs := by
  unfold eCat
  rw [List.map_map]
  congr 1
  exact List.map_congr_left fun v _ => mv_cat f v
def eTy (k : Nat) : FieldType := if k = 20 then .int else if k = 21 then .long else if k = 22 then .char else if k = 23 then .boolean else .object "LiarsCock$State"
def gE (m : eM) (a j k : Nat) : Value := if k = 21 then .long (gL m a j) else if k = 24 then vr (gR m a j) else .int (gI m a j)
def eTyp (ci j : Nat) : Nat := match eCl[ci]? with
  | some q => if (q.2.1 j).2.2.1 = "I" then 0 else if (q.2.1 j).2.2.1 = "J" then 1 else if (q.2.1 j).2.2.1 = "Z" then 3 else if (q.2.1 j).2.2.1 = "C" then 4 else 2
  | none => 9
/-- the classes' slots, where this law began, its heap then, the two static arrays -/
abbrev eG : Type := va_G × Nat × Heap × Nat × Nat
def eCell (G : eG) (U : State) (m : eM) (ad : Nat → Nat) (H : Heap) (a : Nat) : Prop :=
  (kd a < 20 ∧ ∃ q, eCl[kd a]? = some q ∧ t_OB (ad a) (G.1.1 (kd a)) q.2.2 (G.1.2 (kd a)) H (fun j => mv ad (gF m a j (eTyp (kd a) j)))) ∨
  (20 ≤ kd a ∧ kd a ≤ 24 ∧ ∃ cell : Cell, H[ad a]? = some cell ∧ U.isArrayOf cell (eTy (kd a)) ∧ cell.vm ≠ .unknown ∧ aln m a ≤ cell.slots.size ∧ cell.slots.size.toInt32 = (aln m a).toInt32 ∧ (∀ j, j < aln m a → cell.slots[j]? = some (mv ad (gE m a j (kd a)))) ∧ (kd a = 24 → va_RA U cell.cls (.object "LiarsCock$State")))
def Hp (G : eG) (U : State) (m : eM) (ad : Nat → Nat) (H : Heap) : Prop :=
  (∀ a, a < gX m → eCell G U m ad H a) ∧ (∀ a b, 3 ≤ a → a < gX m → b < gX m → ad a = ad b → a = b) ∧ (∀ a, 3 ≤ a → a < gX m → G.2.1 ≤ ad a) ∧ U.heap.size ≤ H.size ∧ G.2.1 ≤ H.size ∧ (∀ q : Nat, q < G.2.1 → H[q]? = G.2.2.1[q]?) ∧ (∀ a j, gX m ≤ a → gI m a j = 0 ∧ gL m a j = 0 ∧ gR m a j = none) ∧ (∀ a j b, gR m a j = some b → b < gX m) ∧ 3 ≤ gX m ∧ ad 1 = G.2.2.2.1 ∧ ad 2 = G.2.2.2.2
theorem eCell.moved {G : eG} {u U : State} {m : eM} {ad : Nat → Nat} {H : Heap} {a : Nat} (hvm : u.vm.Alike U.vm) (h : eCell G u m ad H a) : eCell G U m ad H a := by
  rcases h with h | ⟨h1, h2, cell, h3, h4, h5, h6, h7, h8, h9⟩
  · exact Or.inl h
  · exact Or.inr ⟨h1, h2, cell, h3, State.isArrayOf_alike hvm h4, h5, h6, h7, h8, fun e => (h9 e).moved hvm⟩
theorem Hp.moved {G : eG} {u U : State} {m : eM} {ad : Nat → Nat} {H : Heap} (hvm : u.vm.Alike U.vm) (hz : U.heap.size ≤ H.size) (h : Hp G u m ad H) : Hp G U m ad H := ⟨fun a ha => (h.1 a ha).moved hvm, h.2.1, h.2.2.1, hz, h.2.2.2.2⟩
theorem eCell.lt {G : eG} {U : State} {m : eM} {ad : Nat → Nat} {H : Heap} {a : Nat} (h : eCell G U m ad H a) : ad a < H.size := by
  rcases h with ⟨-, q, -, cell, h1, -⟩ | ⟨-, -, cell, h1, -⟩
  · exact (Array.getElem?_eq_some_iff.mp h1).1
  · exact (Array.getElem?_eq_some_iff.mp h1).1
theorem gF_congr {m m' : eM} {a : Nat} (hI : gI m' a = gI m a) (hL : gL m' a = gL m a) (hR : gR m' a = gR m a) (j ty : Nat) : gF m' a j ty = gF m a j ty := by
  unfold gF; rw [hI, hL, hR]
theorem gE_congr {m m' : eM} {a : Nat} (hI : gI m' a = gI m a) (hL : gL m' a = gL m a) (hR : gR m' a = gR m a) (j k : Nat) : gE m' a j k = gE m a j k := by
  unfold gE; rw [hI, hL, hR]
/-- a cell that a step did not touch -/
theorem eCell.kept {G : eG} {U : State} {m m' : eM} {ad ad' : Nat → Nat} {H H' : Heap} {a : Nat} (h : eCell G U m ad H a) (hA : ∀ v, v = a ∨ (∃ j, gR m a j = some v) → ad' v = ad v) (hN : gN m' = gN m) (hI : gI m' a = gI m a) (hL : gL m' a = gL m a) (hR : gR m' a = gR m a) (hq : H'[ad a]? = H[ad a]?) : eCell G U m' ad' H' a := by
  have ea : ad' a = ad a := hA a (Or.inl rfl)
  have er : ∀ j, mv ad' (vr (gR m a j)) = mv ad (vr (gR m a j)) := fun j => by
    cases e : gR m a j with
    | none => rfl
    | some b => show Value.ref _ = Value.ref _; rw [hA b (Or.inr ⟨j, e⟩)]
  have eF : ∀ j ty, mv ad' (gF m' a j ty) = mv ad (gF m a j ty) := fun j ty => by
    rw [gF_congr hI hL hR]; unfold gF; split
    · rfl
    · split
      · exact er j
      · rfl
  have eE : ∀ j k, mv ad' (gE m' a j k) = mv ad (gE m a j k) := fun j k => by
    rw [gE_congr hI hL hR]; unfold gE; split
    · rfl
    · split
      · exact er j
      · rfl
  have en : aln m' a = aln m a := by unfold aln; rw [hN]
  rcases h with ⟨h0, q, h1, cell, h2, h3, h4, h5⟩ | ⟨h1, h2, cell, h3, h4, h5, h6, h7, h8, h9⟩
  · exact Or.inl ⟨h0, q, h1, cell, by rw [ea, hq]; exact h2, h3, h4, fun k hk => (h5 k hk).trans (congrArg some (eF k _).symm)⟩
  · exact Or.inr ⟨h1, h2, cell, by rw [ea, hq]; exact h3, h4, h5, by rw [en]; exact h6, by rw [en]; exact h7, fun j hj => by rw [en] at hj; rw [h8 j hj, eE], h9⟩
/-- a store into one cell -/
theorem Hp.store {G : eG} {U : State} {m m' : eM} {ad : Nat → Nat} {H H' : Heap} {a : Nat} (h : Hp G U m ad H) (hX : gX m' = gX m) (hN : gN m' = gN m) (h3 : 3 ≤ a) (ha : a < gX m)
    (ho : ∀ b, b ≠ a → gI m' b = gI m b ∧ gL m' b = gL m b ∧ gR m' b = gR m b) (hz : H'.size = H.size) (hq : ∀ q : Nat, q ≠ ad a → H'[q]? = H[q]?) (hc : eCell G U m' ad H' a) (hR : ∀ j b, gR m' a j = some b → b < gX m) : Hp G U m' ad H' := by
  obtain ⟨c1, c2, c3, c4, c5, c6, c7, c8, c9, c10, c11⟩ := h
  refine ⟨fun b hb => ?_, ?_, ?_, by rw [hz]; exact c4, by rw [hz]; exact c5, fun q hlt => ?_, fun b j hb => ?_, fun b j x hx => ?_, by rw [hX]; exact c9, c10, c11⟩
  · rw [hX] at hb
    by_cases e : b = a
    · subst e; exact hc
    · obtain ⟨o1, o2, o3⟩ := ho b e
      exact (c1 b hb).kept (fun v _ => rfl) hN o1 o2 o3 (hq _ fun z => e (c2 a b h3 ha hb z.symm).symm)
  · rw [hX]; exact c2
  · rw [hX]; exact c3
  · rw [hq q (fun z => by have := c3 a h3 ha; omega)]; exact c6 q hlt
  · rw [hX] at hb
    obtain ⟨o1, o2, o3⟩ := ho b (by omega)
    rw [o1, o2, o3]; exact c7 b j hb
  · rw [hX]
    by_cases e : b = a
    · subst e; exact hR j x hx
    · rw [(ho b e).2.2] at hx; exact c8 b j x hx
/-- the addresses with one more -/
def adN (ad : Nat → Nat) (x h : Nat) : Nat → Nat := fun k => if k = x then h else ad k
theorem adN_self (ad : Nat → Nat) (x h : Nat) : adN ad x h x = h := if_pos rfl
theorem adN_old {ad : Nat → Nat} {x h k : Nat} (hk : k < x) : adN ad x h k = ad k := if_neg (Nat.ne_of_lt hk)
/-- a new cell with a number -/
theorem Hp.born {G : eG} {U : State} {m : eM} {ad : Nat → Nat} {H H' : Heap} {n : Nat} (h : Hp G U m ad H) (hz : H'.size = H.size + 1) (hq : ∀ q : Nat, q < H.size → H'[q]? = H[q]?) (hc : eCell G U (sN m n) (adN ad (gX m) H.size) H' (gX m)) : Hp G U (sN m n) (adN ad (gX m) H.size) H' := by
  obtain ⟨c1, c2, c3, c4, c5, c6, c7, c8, c9, c10, c11⟩ := h
  have hlt : ∀ b, b < gX m → ad b < H.size := fun b hb => (c1 b hb).lt
  have hN : gX (sN m n) = gX m + 1 := rfl
  refine ⟨fun b hb => ?_, fun a b h3 ha hb e => ?_, fun a h3 ha => ?_, by omega, by omega, fun q hlt2 => ?_, fun b j hb => ?_, fun b j x hx => ?_, ?_, ?_, ?_⟩
  · rw [hN] at hb
    by_cases e : b = gX m
    · subst e; exact hc
    · have hb' : b < gX m := by omega
      refine (c1 b hb').kept (fun v hv => ?_) rfl rfl rfl rfl (hq _ (hlt b hb'))
      rcases hv with rfl | ⟨j, hj⟩
      · exact adN_old hb'
      · exact adN_old (c8 b j v hj)
  · rw [hN] at ha hb
    by_cases ea : a = gX m <;> by_cases eb : b = gX m
    · omega
    · subst ea
      rw [adN_self, adN_old (show b < gX m by omega)] at e
      have := hlt b (by omega); omega
    · subst eb
      rw [adN_self, adN_old (show a < gX m by omega)] at e
      have := hlt a (by omega); omega
    · rw [adN_old (show a < gX m by omega), adN_old (show b < gX m by omega)] at e
      exact c2 a b h3 (by omega) (by omega) e
  · rw [hN] at ha
    by_cases ea : a = gX m
    · subst ea; rw [adN_self]; exact c5
    · rw [adN_old (show a < gX m by omega)]; exact c3 a h3 (by omega)
  · rw [hq q (by omega)]; exact c6 q hlt2
  · rw [hN] at hb; exact c7 b j (by omega)
  · rw [hN]; exact Nat.lt_succ_of_lt (c8 b j x hx)
  · rw [hN]; omega
  · rw [adN_old (show 1 < gX m by omega)]; exact c10
  · rw [adN_old (show 2 < gX m by omega)]; exact c11
/-- new cells that nobody names -/
theorem Hp.bornX {G : eG} {U : State} {m : eM} {ad : Nat → Nat} {H H' : Heap} {n : Nat} (h : Hp G U m ad H) (hz : H.size ≤ H'.size) (hq : ∀ q : Nat, q < H.size → H'[q]? = H[q]?) : Hp G U (sX m n) ad H' := by
  obtain ⟨c1, c2, c3, c4, c5, c6, c7, c8, c9, c10, c11⟩ := h
  exact ⟨fun b hb => (c1 b hb).kept (fun v _ => rfl) rfl rfl rfl rfl (hq _ (c1 b hb).lt), c2, c3, Nat.le_trans c4 hz, by omega, fun q h2 => by rw [hq q (by omega)]; exact c6 q h2, c7, c8, c9, c10, c11⟩
/-! ===== locals ===== -/
def LR (f : Nat → Nat) (ls : List Value) (la : Array Slot) : Prop := la.size = ls.length ∧ lv_wf la ∧ ∀ (i : Nat) (v : Value), ls[i]? = some v → v ≠ eU → la[i]? = some (.val (mv f v))
def eAsc (f : Nat → Nat) (ls : List Value) : List (Nat × Value) := (List.range ls.length).filterMap fun i => match ls[i]? with
  | some v => if v = eU then none else some (i, mv f v)
  | none => none
theorem eAsc_mem {f : Nat → Nat} {ls : List Value} {q : Nat × Value} : q ∈ eAsc f ls ↔ ∃ v, ls[q.1]? = some v ∧ v ≠ eU ∧ q.2 = mv f v := by
  unfold eAsc
  rw [List.mem_filterMap]
  constructor
  · rintro ⟨i, hi, h⟩
    cases e : ls[i]? with
    | none => rw [e] at h; cases h
    | some v =>
      rw [e] at h
      by_cases hu : v = eU
      · simp [hu] at h
      · simp [hu] at h
        subst h
        exact ⟨v, e, hu, rfl⟩
  · rintro ⟨v, h1, h2, h3⟩
    refine ⟨q.1, List.mem_range.mpr (List.getElem?_eq_some_iff.mp h1).1, ?_⟩
    rw [h1]
    simp [h2, ← h3]
theorem LR.has {f : Nat → Nat} {ls : List Value} {la : Array Slot} (h : LR f ls la) : lv_has la ls.length (eAsc f ls) := by
  refine ⟨h.1, h.2.1, fun q hq => ?_⟩
  obtain ⟨v, h1, h2, h3⟩ := eAsc_mem.mp hq
  rw [h3]; exact h.2.2 _ v h1 h2
theorem LR.of {f : Nat → Nat} {ls : List Value} {la : Array Slot} {l : List (Nat × Value)} (h : lv_has la ls.length l) (hl : ∀ (i : Nat) (v : Value), ls[i]? = some v → v ≠ eU → (i, mv f v) ∈ l) : LR f ls la :=
  ⟨h.1, h.2.1, fun i v h1 h2 => h.2.2 (i, mv f v) (hl i v h1 h2)⟩
theorem LR.mono {f g : Nat → Nat} {ls : List Value} {la : Array Slot} (h : LR f ls la) (hf : ∀ v ∈ ls, mv g v = mv f v) : LR g ls la :=
  ⟨h.1, h.2.1, fun i v h1 h2 => by rw [hf v (List.mem_of_getElem? h1)]; exact h.2.2 i v h1 h2⟩
theorem eSet1_len (ls : List Value) (i : Nat) (v : Value) : (eSet1 ls i v).length = ls.length := by
  unfold eSet1; split
  · simp
  · split <;> simp
theorem eSet2_len (ls : List Value) (i : Nat) (v : Value) : (eSet2 ls i v).length = ls.length := by
  unfold eSet2; simp [eSet1_len]
theorem eSet1_get {ls : List Value} {i j : Nat} {v w : Value} (h : (eSet1 ls i v)[j]? = some w) (hu : w ≠ eU) : (j = i ∧ w = v) ∨ (j ≠ i ∧ ls[j]? = some w ∧ ¬ (j + 1 = i ∧ w.category = 2)) := by
  unfold eSet1 at h
  split at h
  · by_cases e : j = 0
    · subst e
      rw [List.getElem?_set_self' ] at h
      cases e2 : ls[0]? with
      | none => rw [e2] at h; cases h
      | some z => rw [e2] at h; cases h; exact Or.inl ⟨rfl, rfl⟩
    · rw [List.getElem?_set_ne (Ne.symm e)] at h
      exact Or.inr ⟨e, h, fun q => by omega⟩
  · rename_i k
    by_cases e : j = k + 1
    · subst e
      rw [List.getElem?_set_self'] at h
      split at h
      · cases e2 : (ls.set k eU)[k + 1]? with
        | none => rw [e2] at h; cases h
        | some z => rw [e2] at h; cases h; exact Or.inl ⟨rfl, rfl⟩
      · cases e2 : ls[k + 1]? with
        | none => rw [e2] at h; cases h
        | some z => rw [e2] at h; cases h; exact Or.inl ⟨rfl, rfl⟩
    · rw [List.getElem?_set_ne (Ne.symm e)] at h
      right
      split at h
      · rename_i hc
        by_cases e3 : j = k
        · subst e3
          rw [List.getElem?_set_self'] at h
          cases e2 : ls[j]? with
          | none => rw [e2] at h; cases h
          | some z => rw [e2] at h; cases h; exact absurd rfl hu
        · rw [List.getElem?_set_ne (Ne.symm e3)] at h
          exact ⟨e, h, fun q => e3 (by omega)⟩
      · rename_i hc
        refine ⟨e, h, fun q => hc ?_⟩
        have : j = k := by omega
        subst this
        rw [List.getD_eq_getElem?_getD, h]
        exact q.2
theorem LR.set1 {f : Nat → Nat} {ls : List Value} {la' : Array Slot} {i : Nat} {v : Value} (h : lv_has la' ls.length ((i, mv f v) :: (eAsc f ls).filter (fun q => !(q.1 == i) && !(q.1 + 1 == i && q.2.category == 2)))) : LR f (eSet1 ls i v) la' := by
  refine LR.of (by rw [eSet1_len]; exact h) fun j w h1 h2 => ?_
  rcases eSet1_get h1 h2 with ⟨rfl, rfl⟩ | ⟨e1, e2, e3⟩
  · exact List.mem_cons_self
  · refine List.mem_cons_of_mem _ (List.mem_filter.mpr ⟨eAsc_mem.mpr ⟨w, e2, h2, rfl⟩, ?_⟩)
    have : (mv f w).category = w.category := mv_cat f w
    simp [e1, this]
    omega
theorem LR.set2 {f : Nat → Nat} {ls : List Value} {la' : Array Slot} {i : Nat} {v : Value} (h : lv_has la' ls.length ((i, mv f v) :: (eAsc f ls).filter (fun q => !(q.1 == i) && (!(q.1 == i + 1) && !(q.1 + 1 == i && q.2.category == 2))))) : LR f (eSet2 ls i v) la' := by
  refine LR.of (by rw [eSet2_len]; exact h) fun j w h1 h2 => ?_
  unfold eSet2 at h1
  by_cases e : j = i + 1
  · subst e
    rw [List.getElem?_set_self'] at h1
    cases e2 : (eSet1 ls i v)[i + 1]? with
    | none => rw [e2] at h1; cases h1
    | some z => rw [e2] at h1; cases h1; exact absurd rfl h2
  · rw [List.getElem?_set_ne (Ne.symm e)] at h1
    rcases eSet1_get h1 h2 with ⟨rfl, rfl⟩ | ⟨e1, e2, e3⟩
    · exact List.mem_cons_self
    · refine List.mem_cons_of_mem _ (List.mem_filter.mpr ⟨eAsc_mem.mpr ⟨w, e2, h2, rfl⟩, ?_⟩)
      have : (mv f w).category = w.category := mv_cat f w
      simp [e1, e, this]
      omega
/-- the locals with which a method begins -/
theorem eArg_mem (f : Nat → Nat) : ∀ (vs : List Value) (k i : Nat) (v : Value), (eArg vs)[i]? = some v → v ≠ eU → (k + i, mv f v) ∈ lv_args k (vs.map (mv f))
  | [], k, i, v, h, _ => by simp [eArg] at h
  | w :: vs, k, i, v, h, hu => by
    unfold eArg at h
    simp only [List.map_cons, lv_args, mv_cat]
    split at h
    · rename_i hc
      rw [if_pos hc]
      match i, h with
      | 0, h => simp at h; subst h; exact List.mem_cons_self
      | 1, h => simp at h; exact absurd h.symm hu
      | i + 2, h =>
        have h' : (eArg vs)[i]? = some v := by simpa using h
        have := eArg_mem f vs (k + 2) i v h' hu
        rw [show k + (i + 2) = k + 2 + i by omega]
        exact List.mem_cons_of_mem _ this
    · rename_i hc
      rw [if_neg hc]
      match i, h with
      | 0, h => simp at h; subst h; exact List.mem_cons_self
      | i + 1, h =>
        have h' : (eArg vs)[i]? = some v := by simpa using h
        have := eArg_mem f vs (k + 1) i v h' hu
        rw [show k + (i + 1) = k + 1 + i by omega]
        exact List.mem_cons_of_mem _ this
theorem eArg_len (f : Nat → Nat) : ∀ vs : List Value, (lg_sl (vs.map (mv f))).length = (eArg vs).length
  | [] => rfl
  | w :: vs => by
    have ih := eArg_len f vs
    simp only [lg_sl, List.map_cons, List.flatMap_cons, List.length_append] at ih ⊢
    rw [ih, mv_cat, show eArg (w :: vs) = if w.category = 2 then w :: eU :: eArg vs else w :: eArg vs from rfl]
    split
    · simp; omega
    · simp; omega
