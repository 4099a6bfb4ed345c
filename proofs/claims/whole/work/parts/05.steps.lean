/-! ===== one instruction of the interpreter is one of the machine ===== -/
def eRv (m : eM) (v : Value) : Prop := match v with
  | .ref a => a < gX m
  | _ => True
def Kn (G : eG) (U : State) : Prop := (∀ (ci : Nat) (q : vw_C), eCl[ci]? = some q → u_Kn U q.1 q.2.1 q.2.2 (G.1.1 ci) (G.1.2 ci)) ∧ (∀ t ∈ eMn, va_Nw (wMn t) U) ∧ (∀ t ∈ eFn, va_Nw (wFn t) U) ∧ va_Z "LiarsCock$Tape" "TAKEN" "[J" (.ref G.2.2.2.2) (fun q => G.2.1 ≤ q) U G.2.2.1 ∧ va_Z "LiarsCock" "FACT_SO" "[J" (.ref G.2.2.2.1) (fun q => G.2.1 ≤ q) U G.2.2.1 ∧ va_AO "LiarsCock$State" U ∧ vx_Zq Bundle.tN "UNASSIGNED_STACK" Bundle.steD (fun q => G.2.1 ≤ q) U G.2.2.1 ∧ vx_Zq Bundle.tN "SUPPRESSED_SENTINEL" Bundle.listD (fun q => G.2.1 ≤ q) U G.2.2.1 ∧ (∃ a, vk_R "LiarsCock" 333 "no such saying, cock, chance, number of minutes or what" a U) ∧ (∃ a, vk_R "LiarsCock" 339 "no lie for this cock, or behind the last minute" a U) ∧ (∀ x ∈ eDx, va_Nw (.declares x) U) ∧ ∀ q ∈ eCx, va_Nw (.castable q.1 q.2) U
def FR (G : eG) (p : Program) (s : State) (mid : MethodId) (args : Array Value) (meth : Method) (c : Code) (μ : Nat) : Prop := p.tables.exec = Jvm.exec ∧ c.code = mB μ ∧ c.maxLocals = mL μ ∧ meth.sig.returnType = mR μ ∧ meth.locks = false ∧ s.vm.findClass (cN (mC μ)) = some mid.cls ∧ (∀ w ∈ gtbl, w.before args s = true) ∧ Kn G s ∧ (mIni μ = true → meth.name = "<init>")
def eO (G : eG) (s : State) (μ : Nat) (m : eM) (ad : Nat → Nat) (ls st : List Value) (H : Heap) (locs : List Loc) (la : Array Slot) : Prop := Hp G s m ad H ∧ LR ad ls la ∧ ls.length = mL μ ∧ (∀ q ∈ locs, G.2.1 ≤ q.base) ∧ (∀ v ∈ ls, eRv m v) ∧ (∀ v ∈ st, eRv m v)
theorem eGo_inj {pc pc' : Nat} {ls st ls' st' : List Value} {m m' : eM} (h : eGo pc ls st m = some (pc', ls', st', m')) : pc = pc' ∧ ls = ls' ∧ st = st' ∧ m = m' := by
  unfold eGo at h
  injection h with h
  injection h with h1 h
  injection h with h2 h
  injection h with h3 h4
  exact ⟨h1, h2, h3, h4⟩
theorem eRv_ni (m : eM) (x : Int32) : eRv m (.int x) := trivial
theorem eRv_nl (m : eM) (x : Int64) : eRv m (.long x) := trivial
/-- a value that names no cell -/
def eNr0 (v : Value) : Prop := (∀ g, mv g v = v) ∧ ∀ m, eRv m v
theorem eNr_i (x : Int32) : eNr0 (.int x) := ⟨fun _ => rfl, fun _ => trivial⟩
theorem eNr_l (x : Int64) : eNr0 (.long x) := ⟨fun _ => rfl, fun _ => trivial⟩
section STEP
variable {G : eG} {p : Program} {l : Launch} {e : Env} {R : Room} {s : State} {mid : MethodId} {args : Array Value} {below : List Frame} {meth : Method} {c : Code} {Q : State → Prop} {h0 s0 μ : Nat}
variable {pc pc' npc : Nat} {ls ls' st st' : List Value} {m m' : eM} {ad : Nat → Nat} {H : Heap} {locs : List Loc} {la : Array Slot}
theorem eO.push {v : Value} (h : eO G s μ m ad ls st H locs la) (hv : eRv m v) : eO G s μ m ad ls (v :: st) H locs la := ⟨h.1, h.2.1, h.2.2.1, h.2.2.2.1, h.2.2.2.2.1, fun w hw => (List.mem_cons.mp hw).elim (fun e => e ▸ hv) (h.2.2.2.2.2 w)⟩
theorem eO.pop {v : Value} (h : eO G s μ m ad ls (v :: st) H locs la) : eO G s μ m ad ls st H locs la := ⟨h.1, h.2.1, h.2.2.1, h.2.2.2.1, h.2.2.2.2.1, fun w hw => h.2.2.2.2.2 w (List.mem_cons_of_mem _ hw)⟩
theorem eO.top {v : Value} (h : eO G s μ m ad ls (v :: st) H locs la) : eRv m v := h.2.2.2.2.2 v List.mem_cons_self
/-- what the goal is: the machine stands at pc with these locals and this stack -/
abbrev eW (p : Program) (l : Launch) (e : Env) (R : Room) (s : State) (mid : MethodId) (args : Array Value) (below : List Frame) (meth : Method) (c : Code) (Q : State → Prop) (h0 s0 : Nat) (m : eM) (ad : Nat → Nat) (H : Heap) (locs : List Loc) (la : Array Slot) (pc : Nat) (st : List Value) : Prop :=
  W p l e R s mid args below meth c H locs (gH m - h0) (gS m - s0) Q (F0 mid pc la (st.map (mv ad)))
abbrev eK (G : eG) (p : Program) (l : Launch) (e : Env) (R : Room) (s : State) (mid : MethodId) (args : Array Value) (below : List Frame) (meth : Method) (c : Code) (Q : State → Prop) (h0 s0 μ : Nat) (m : eM) (ad : Nat → Nat) (m' : eM) (pc' : Nat) (ls' st' : List Value) : Prop :=
  ∀ (ad' : Nat → Nat) (H' : Heap) (locs' : List Loc) (la' : Array Slot), (∀ a, a < gX m → ad' a = ad a) → eO G s μ m' ad' ls' st' H' locs' la' → eW p l e R s mid args below meth c Q h0 s0 m' ad' H' locs' la' pc' st'
theorem sn_1I (f : Int32 → Value) (hf : ∀ x, eNr0 (f x)) (row : ∀ (x : Int32) (rest : List Value), W p l e R s mid args below meth c H locs (gH m - h0) (gS m - s0) Q (F0 mid npc la (f x :: rest)) → W p l e R s mid args below meth c H locs (gH m - h0) (gS m - s0) Q (F0 mid pc la (.int x :: rest)))
    (ha : e1I f npc ls st m = some (pc', ls', st', m')) (o : eO G s μ m ad ls st H locs la) (kk : eK G p l e R s mid args below meth c Q h0 s0 μ m ad m' pc' ls' st') : eW p l e R s mid args below meth c Q h0 s0 m ad H locs la pc st := by
  unfold e1I at ha
  split at ha
  · obtain ⟨rfl, rfl, rfl, rfl⟩ := eGo_inj ha
    refine row _ _ ?_
    have := kk ad H locs la (fun _ _ => rfl) (o.pop.push ((hf _).2 _))
    simp only [eW, List.map_cons, (hf _).1] at this
    exact this
  · cases ha
theorem sn_1L (f : Int64 → Value) (hf : ∀ x, eNr0 (f x)) (row : ∀ (x : Int64) (rest : List Value), W p l e R s mid args below meth c H locs (gH m - h0) (gS m - s0) Q (F0 mid npc la (f x :: rest)) → W p l e R s mid args below meth c H locs (gH m - h0) (gS m - s0) Q (F0 mid pc la (.long x :: rest)))
    (ha : e1L f npc ls st m = some (pc', ls', st', m')) (o : eO G s μ m ad ls st H locs la) (kk : eK G p l e R s mid args below meth c Q h0 s0 μ m ad m' pc' ls' st') : eW p l e R s mid args below meth c Q h0 s0 m ad H locs la pc st := by
  unfold e1L at ha
  split at ha
  · obtain ⟨rfl, rfl, rfl, rfl⟩ := eGo_inj ha
    refine row _ _ ?_
    have := kk ad H locs la (fun _ _ => rfl) (o.pop.push ((hf _).2 _))
    simp only [eW, List.map_cons, (hf _).1] at this
    exact this
  · cases ha
theorem sn_2I (f : Int32 → Int32 → Value) (hf : ∀ x y, eNr0 (f x y)) (row : ∀ (x y : Int32) (rest : List Value), W p l e R s mid args below meth c H locs (gH m - h0) (gS m - s0) Q (F0 mid npc la (f x y :: rest)) → W p l e R s mid args below meth c H locs (gH m - h0) (gS m - s0) Q (F0 mid pc la (.int y :: .int x :: rest)))
    (ha : e2I f npc ls st m = some (pc', ls', st', m')) (o : eO G s μ m ad ls st H locs la) (kk : eK G p l e R s mid args below meth c Q h0 s0 μ m ad m' pc' ls' st') : eW p l e R s mid args below meth c Q h0 s0 m ad H locs la pc st := by
  unfold e2I at ha
  split at ha
  · obtain ⟨rfl, rfl, rfl, rfl⟩ := eGo_inj ha
    refine row _ _ _ ?_
    have := kk ad H locs la (fun _ _ => rfl) (o.pop.pop.push ((hf _ _).2 _))
    simp only [eW, List.map_cons, (hf _ _).1] at this
    exact this
  · cases ha
theorem sn_2L (f : Int64 → Int64 → Value) (hf : ∀ x y, eNr0 (f x y)) (row : ∀ (x y : Int64) (rest : List Value), W p l e R s mid args below meth c H locs (gH m - h0) (gS m - s0) Q (F0 mid npc la (f x y :: rest)) → W p l e R s mid args below meth c H locs (gH m - h0) (gS m - s0) Q (F0 mid pc la (.long y :: .long x :: rest)))
    (ha : e2L f npc ls st m = some (pc', ls', st', m')) (o : eO G s μ m ad ls st H locs la) (kk : eK G p l e R s mid args below meth c Q h0 s0 μ m ad m' pc' ls' st') : eW p l e R s mid args below meth c Q h0 s0 m ad H locs la pc st := by
  unfold e2L at ha
  split at ha
  · obtain ⟨rfl, rfl, rfl, rfl⟩ := eGo_inj ha
    refine row _ _ _ ?_
    have := kk ad H locs la (fun _ _ => rfl) (o.pop.pop.push ((hf _ _).2 _))
    simp only [eW, List.map_cons, (hf _ _).1] at this
    exact this
  · cases ha
theorem sn_LI (f : Int64 → Int32 → Value) (hf : ∀ x y, eNr0 (f x y)) (row : ∀ (x : Int64) (y : Int32) (rest : List Value), W p l e R s mid args below meth c H locs (gH m - h0) (gS m - s0) Q (F0 mid npc la (f x y :: rest)) → W p l e R s mid args below meth c H locs (gH m - h0) (gS m - s0) Q (F0 mid pc la (.int y :: .long x :: rest)))
    (ha : eLI f npc ls st m = some (pc', ls', st', m')) (o : eO G s μ m ad ls st H locs la) (kk : eK G p l e R s mid args below meth c Q h0 s0 μ m ad m' pc' ls' st') : eW p l e R s mid args below meth c Q h0 s0 m ad H locs la pc st := by
  unfold eLI at ha
  split at ha
  · obtain ⟨rfl, rfl, rfl, rfl⟩ := eGo_inj ha
    refine row _ _ _ ?_
    have := kk ad H locs la (fun _ _ => rfl) (o.pop.pop.push ((hf _ _).2 _))
    simp only [eW, List.map_cons, (hf _ _).1] at this
    exact this
  · cases ha
theorem sn_Div (f : Int32 → Int32 → Value) (hf : ∀ x y, eNr0 (f x y)) (row : ∀ (x y : Int32) (rest : List Value), ¬ y = 0 → W p l e R s mid args below meth c H locs (gH m - h0) (gS m - s0) Q (F0 mid npc la (f x y :: rest)) → W p l e R s mid args below meth c H locs (gH m - h0) (gS m - s0) Q (F0 mid pc la (.int y :: .int x :: rest)))
    (ha : eDiv npc f ls st m = some (pc', ls', st', m')) (o : eO G s μ m ad ls st H locs la) (kk : eK G p l e R s mid args below meth c Q h0 s0 μ m ad m' pc' ls' st') : eW p l e R s mid args below meth c Q h0 s0 m ad H locs la pc st := by
  unfold eDiv at ha
  split at ha
  · split at ha
    · cases ha
    · rename_i hne
      obtain ⟨rfl, rfl, rfl, rfl⟩ := eGo_inj ha
      refine row _ _ _ hne ?_
      have := kk ad H locs la (fun _ _ => rfl) (o.pop.pop.push ((hf _ _).2 _))
      simp only [eW, List.map_cons, (hf _ _).1] at this
      exact this
  · cases ha
theorem sn_DivL (f : Int64 → Int64 → Value) (hf : ∀ x y, eNr0 (f x y)) (row : ∀ (x y : Int64) (rest : List Value), ¬ y = 0 → W p l e R s mid args below meth c H locs (gH m - h0) (gS m - s0) Q (F0 mid npc la (f x y :: rest)) → W p l e R s mid args below meth c H locs (gH m - h0) (gS m - s0) Q (F0 mid pc la (.long y :: .long x :: rest)))
    (ha : eDivL npc f ls st m = some (pc', ls', st', m')) (o : eO G s μ m ad ls st H locs la) (kk : eK G p l e R s mid args below meth c Q h0 s0 μ m ad m' pc' ls' st') : eW p l e R s mid args below meth c Q h0 s0 m ad H locs la pc st := by
  unfold eDivL at ha
  split at ha
  · split at ha
    · cases ha
    · rename_i hne
      obtain ⟨rfl, rfl, rfl, rfl⟩ := eGo_inj ha
      refine row _ _ _ hne ?_
      have := kk ad H locs la (fun _ _ => rfl) (o.pop.pop.push ((hf _ _).2 _))
      simp only [eW, List.map_cons, (hf _ _).1] at this
      exact this
  · cases ha
theorem sn_C {α : Type} (q : Option α) (f : α → Value) (hf : ∀ x, eNr0 (f x)) (row : ∀ (x : α) (rest : List Value), q = some x → W p l e R s mid args below meth c H locs (gH m - h0) (gS m - s0) Q (F0 mid npc la (f x :: rest)) → W p l e R s mid args below meth c H locs (gH m - h0) (gS m - s0) Q (F0 mid pc la rest))
    (ha : eC q f npc ls st m = some (pc', ls', st', m')) (o : eO G s μ m ad ls st H locs la) (kk : eK G p l e R s mid args below meth c Q h0 s0 μ m ad m' pc' ls' st') : eW p l e R s mid args below meth c Q h0 s0 m ad H locs la pc st := by
  unfold eC at ha
  split at ha
  · obtain ⟨rfl, rfl, rfl, rfl⟩ := eGo_inj ha
    refine row _ _ rfl ?_
    have := kk ad H locs la (fun _ _ => rfl) (o.push ((hf _).2 _))
    simp only [eW, List.map_cons, (hf _).1] at this
    exact this
  · cases ha
theorem sn_Ld {i len k : Nat} (rowI : ∀ (x : Int32) (rest : List Value), k = 0 → la[i]? = some (.val (.int x)) → W p l e R s mid args below meth c H locs (gH m - h0) (gS m - s0) Q (F0 mid (pc + len) la (.int x :: rest)) → W p l e R s mid args below meth c H locs (gH m - h0) (gS m - s0) Q (F0 mid pc la rest))
    (rowL : ∀ (x : Int64) (rest : List Value), k = 1 → la[i]? = some (.val (.long x)) → W p l e R s mid args below meth c H locs (gH m - h0) (gS m - s0) Q (F0 mid (pc + len) la (.long x :: rest)) → W p l e R s mid args below meth c H locs (gH m - h0) (gS m - s0) Q (F0 mid pc la rest))
    (rowR : ∀ (x : Nat) (rest : List Value), k = 2 → la[i]? = some (.val (.ref x)) → W p l e R s mid args below meth c H locs (gH m - h0) (gS m - s0) Q (F0 mid (pc + len) la (.ref x :: rest)) → W p l e R s mid args below meth c H locs (gH m - h0) (gS m - s0) Q (F0 mid pc la rest))
    (ha : eLd i len pc k ls st m = some (pc', ls', st', m')) (o : eO G s μ m ad ls st H locs la) (kk : eK G p l e R s mid args below meth c Q h0 s0 μ m ad m' pc' ls' st') : eW p l e R s mid args below meth c Q h0 s0 m ad H locs la pc st := by
  unfold eLd at ha
  split at ha
  · rename_i x hx
    obtain ⟨rfl, rfl, rfl, rfl⟩ := eGo_inj ha
    exact rowI x _ rfl (o.2.1.2.2 i _ hx (by intro z; cases z)) (kk ad H locs la (fun _ _ => rfl) (o.push trivial))
  · rename_i x hx
    obtain ⟨rfl, rfl, rfl, rfl⟩ := eGo_inj ha
    exact rowL x _ rfl (o.2.1.2.2 i _ hx (by intro z; cases z)) (kk ad H locs la (fun _ _ => rfl) (o.push trivial))
  · rename_i x hx
    obtain ⟨rfl, rfl, rfl, rfl⟩ := eGo_inj ha
    exact rowR _ _ rfl (o.2.1.2.2 i _ hx (by intro z; cases z)) (kk ad H locs la (fun _ _ => rfl) (o.push (o.2.2.2.2.1 _ (List.mem_of_getElem? hx))))
  · cases ha
theorem eSet1_rv {i : Nat} {v : Value} (h : ∀ w ∈ ls, eRv m w) (hv : eRv m v) : ∀ w ∈ eSet1 ls i v, eRv m w := by
  intro w hw
  obtain ⟨j, hj⟩ := List.getElem?_of_mem hw
  by_cases hu : w = eU
  · rw [hu]; trivial
  · rcases eSet1_get hj hu with ⟨-, rfl⟩ | ⟨-, e2, -⟩
    · exact hv
    · exact h _ (List.mem_of_getElem? e2)
theorem eSet2_rv {i : Nat} {v : Value} (h : ∀ w ∈ ls, eRv m w) (hv : eRv m v) : ∀ w ∈ eSet2 ls i v, eRv m w := by
  intro w hw
  unfold eSet2 at hw
  rcases List.mem_or_eq_of_mem_set hw with h1 | rfl
  · exact eSet1_rv h hv w h1
  · trivial
theorem sn_St {i len k : Nat} (rowI : ∀ (x : Int32) (rest : List Value), k = 0 → i < mL μ → (∀ la' : Array Slot, lv_has la' (mL μ) ((i, Value.int x) :: (eAsc ad ls).filter (fun q => !(q.1 == i) && !(q.1 + 1 == i && q.2.category == 2))) → W p l e R s mid args below meth c H locs (gH m - h0) (gS m - s0) Q (F0 mid (pc + len) la' rest)) → W p l e R s mid args below meth c H locs (gH m - h0) (gS m - s0) Q (F0 mid pc la (.int x :: rest)))
    (rowL : ∀ (x : Int64) (rest : List Value), k = 1 → i + 1 < mL μ → (∀ la' : Array Slot, lv_has la' (mL μ) ((i, Value.long x) :: (eAsc ad ls).filter (fun q => !(q.1 == i) && (!(q.1 == i + 1) && !(q.1 + 1 == i && q.2.category == 2)))) → W p l e R s mid args below meth c H locs (gH m - h0) (gS m - s0) Q (F0 mid (pc + len) la' rest)) → W p l e R s mid args below meth c H locs (gH m - h0) (gS m - s0) Q (F0 mid pc la (.long x :: rest)))
    (rowR : ∀ (x : Nat) (rest : List Value), k = 2 → i < mL μ → (∀ la' : Array Slot, lv_has la' (mL μ) ((i, Value.ref x) :: (eAsc ad ls).filter (fun q => !(q.1 == i) && !(q.1 + 1 == i && q.2.category == 2))) → W p l e R s mid args below meth c H locs (gH m - h0) (gS m - s0) Q (F0 mid (pc + len) la' rest)) → W p l e R s mid args below meth c H locs (gH m - h0) (gS m - s0) Q (F0 mid pc la (.ref x :: rest)))
    (ha : eSt1 i len pc k ls st m = some (pc', ls', st', m')) (o : eO G s μ m ad ls st H locs la) (kk : eK G p l e R s mid args below meth c Q h0 s0 μ m ad m' pc' ls' st') : eW p l e R s mid args below meth c Q h0 s0 m ad H locs la pc st := by
  have hn := o.2.2.1
  unfold eSt1 at ha
  split at ha
  · split at ha
    · rename_i x _ hi
      obtain ⟨rfl, rfl, rfl, rfl⟩ := eGo_inj ha
      exact rowI x _ rfl (hn ▸ hi) fun la' h => kk ad H locs la' (fun _ _ => rfl) ⟨o.1, LR.set1 (v := .int x) (hn ▸ h), by rw [eSet1_len]; exact hn, o.2.2.2.1, eSet1_rv o.2.2.2.2.1 trivial, o.pop.2.2.2.2.2⟩
    · cases ha
  · split at ha
    · rename_i x _ hi
      obtain ⟨rfl, rfl, rfl, rfl⟩ := eGo_inj ha
      exact rowL x _ rfl (hn ▸ hi) fun la' h => kk ad H locs la' (fun _ _ => rfl) ⟨o.1, LR.set2 (v := .long x) (hn ▸ h), by rw [eSet2_len]; exact hn, o.2.2.2.1, eSet2_rv o.2.2.2.2.1 trivial, o.pop.2.2.2.2.2⟩
    · cases ha
  · split at ha
    · rename_i x _ hi
      obtain ⟨rfl, rfl, rfl, rfl⟩ := eGo_inj ha
      exact rowR _ _ rfl (hn ▸ hi) fun la' h => kk ad H locs la' (fun _ _ => rfl) ⟨o.1, LR.set1 (v := .ref x) (hn ▸ h), by rw [eSet1_len]; exact hn, o.2.2.2.1, eSet1_rv o.2.2.2.2.1 o.top, o.pop.2.2.2.2.2⟩
    · cases ha
  · cases ha
theorem eT_eq {off : Int} (h : 0 ≤ (pc : Int) + off) : (pc : Int) + off = (eT pc off : Int) := (Int.toNat_of_nonneg h).symm
theorem sn_If (b : Int32 → Bool) (off : Int) (row : ∀ (x : Int32) (rest : List Value) (tgt : Nat), (pc : Int) + off = (tgt : Int) → (b x = true → W p l e R s mid args below meth c H locs (gH m - h0) (gS m - s0) Q (F0 mid tgt la rest)) → (¬ b x = true → W p l e R s mid args below meth c H locs (gH m - h0) (gS m - s0) Q (F0 mid (pc + 3) la rest)) → W p l e R s mid args below meth c H locs (gH m - h0) (gS m - s0) Q (F0 mid pc la (.int x :: rest)))
    (ha : eIf b pc off ls st m = some (pc', ls', st', m')) (o : eO G s μ m ad ls st H locs la) (kk : eK G p l e R s mid args below meth c Q h0 s0 μ m ad m' pc' ls' st') : eW p l e R s mid args below meth c Q h0 s0 m ad H locs la pc st := by
  unfold eIf at ha
  split at ha
  · split at ha
    · rename_i h
      obtain ⟨rfl, rfl, rfl, rfl⟩ := eGo_inj ha
      have := kk ad H locs la (fun _ _ => rfl) o.pop
      refine row _ _ _ (eT_eq h) (fun hb => ?_) (fun hb => ?_)
      · rw [if_pos hb] at this; exact this
      · rw [if_neg hb] at this; exact this
    · cases ha
  · cases ha
theorem sn_If2 (b : Int32 → Int32 → Bool) (off : Int) (row : ∀ (x y : Int32) (rest : List Value) (tgt : Nat), (pc : Int) + off = (tgt : Int) → (b x y = true → W p l e R s mid args below meth c H locs (gH m - h0) (gS m - s0) Q (F0 mid tgt la rest)) → (¬ b x y = true → W p l e R s mid args below meth c H locs (gH m - h0) (gS m - s0) Q (F0 mid (pc + 3) la rest)) → W p l e R s mid args below meth c H locs (gH m - h0) (gS m - s0) Q (F0 mid pc la (.int y :: .int x :: rest)))
    (ha : eIf2 b pc off ls st m = some (pc', ls', st', m')) (o : eO G s μ m ad ls st H locs la) (kk : eK G p l e R s mid args below meth c Q h0 s0 μ m ad m' pc' ls' st') : eW p l e R s mid args below meth c Q h0 s0 m ad H locs la pc st := by
  unfold eIf2 at ha
  split at ha
  · split at ha
    · rename_i h
      obtain ⟨rfl, rfl, rfl, rfl⟩ := eGo_inj ha
      have := kk ad H locs la (fun _ _ => rfl) o.pop.pop
      refine row _ _ _ _ (eT_eq h) (fun hb => ?_) (fun hb => ?_)
      · rw [if_pos hb] at this; exact this
      · rw [if_neg hb] at this; exact this
    · cases ha
  · cases ha
theorem sn_Jmp (off : Int) (row : ∀ (rest : List Value) (tgt : Nat), (pc : Int) + off = (tgt : Int) → W p l e R s mid args below meth c H locs (gH m - h0) (gS m - s0) Q (F0 mid tgt la rest) → W p l e R s mid args below meth c H locs (gH m - h0) (gS m - s0) Q (F0 mid pc la rest))
    (ha : eJmp pc off ls st m = some (pc', ls', st', m')) (o : eO G s μ m ad ls st H locs la) (kk : eK G p l e R s mid args below meth c Q h0 s0 μ m ad m' pc' ls' st') : eW p l e R s mid args below meth c Q h0 s0 m ad H locs la pc st := by
  unfold eJmp at ha
  split at ha
  · rename_i h
    obtain ⟨rfl, rfl, rfl, rfl⟩ := eGo_inj ha
    exact row _ _ (eT_eq h) (kk ad H locs la (fun _ _ => rfl) o)
  · cases ha
end STEP
