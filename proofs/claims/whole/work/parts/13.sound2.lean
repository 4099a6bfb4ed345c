/-! ===== the method that throws, and its caller ===== -/
/-- the words of this throw: the library's, but that the exception's own constructor calls its super by the pool's entry 13 -/
def eAtW : List Cond := Bundle.throwableAtoms ++ Bundle.throwableSAtoms ++ Bundle.passSAtoms "java/util/NoSuchElementException" "java/lang/RuntimeException" 13 prog_21_method_4_code ++ Bundle.chainSAtoms "java/lang/RuntimeException" ["java/lang/Exception"] ++
  [.methodLink "LiarsCock" 335 (Bundle.initS "java/util/NoSuchElementException"), .instantiable "java/util/NoSuchElementException" 6, .castable "java/util/NoSuchElementException" "java/util/NoSuchElementException", .selects "java/util/NoSuchElementException" Bundle.tFill0 Bundle.tFill0, .selects "java/util/NoSuchElementException" Bundle.tFill Bundle.tFill,
   .lays "java/util/NoSuchElementException" Bundle.tN "cause" "Ljava/lang/Throwable;", .lays "java/util/NoSuchElementException" Bundle.tN "stackTrace" Bundle.steD, .lays "java/util/NoSuchElementException" Bundle.tN "suppressedExceptions" Bundle.listD, .lays "java/util/NoSuchElementException" Bundle.tN "detailMessage" "Ljava/lang/String;",
   .isRef (.static Bundle.tN "UNASSIGNED_STACK" Bundle.steD), .isRef (.static Bundle.tN "SUPPRESSED_SENTINEL" Bundle.listD),
   .fieldLink Bundle.tN 198 Bundle.tN "backtrace" "Ljava/lang/Object;", .lays Bundle.tN Bundle.tN "backtrace" "Ljava/lang/Object;", .lays "java/util/NoSuchElementException" Bundle.tN "backtrace" "Ljava/lang/Object;"]
theorem tAtS0 : ∀ w ∈ (eAtW.filter vx_no).filter goodWord, w ∈ lw_tbl := by decide +kernel
theorem tAtS1 : ∀ w ∈ (eAtW.filter vx_no).filter (fun w => !goodWord w), w ∈ eDx.map Cond.declares ++ eCx.map (fun q => Cond.castable q.1 q.2) := by decide +kernel
theorem tAtS : ∀ w ∈ eAtW.filter vx_no, w ∈ gtbl ∨ (∃ x ∈ eDx, w = .declares x) ∨ ∃ q ∈ eCx, w = .castable q.1 q.2 := by
  intro w hw
  by_cases h1 : goodWord w = true
  · exact Or.inl (List.mem_filter.mpr ⟨tAtS0 w (List.mem_filter.mpr ⟨hw, h1⟩), h1⟩)
  · have h2 := tAtS1 w (List.mem_filter.mpr ⟨hw, by simp [h1]⟩)
    rcases List.mem_append.mp h2 with h2 | h2
    · obtain ⟨x, hx, rfl⟩ := List.mem_map.mp h2
      exact Or.inr (Or.inl ⟨x, hx, rfl⟩)
    · obtain ⟨x, hx, rfl⟩ := List.mem_map.mp h2
      exact Or.inr (Or.inr ⟨x, hx, rfl⟩)
theorem tAtS2 : ∀ w ∈ Cond.classLink "LiarsCock" 331 "java/util/NoSuchElementException" :: Cond.initialized "java/util/NoSuchElementException" :: eAtW.filter vx_no, vx_ot w = true := by decide +kernel
theorem tXl : Cond.classLink "LiarsCock" 331 "java/util/NoSuchElementException" ∈ gtbl ∧ Cond.initialized "java/util/NoSuchElementException" ∈ gtbl ∧ Cond.classLink "LiarsCockLaw" 13 "java/util/NoSuchElementException" ∈ gtbl := by
  have h : ∀ w ∈ [Cond.classLink "LiarsCock" 331 "java/util/NoSuchElementException", Cond.initialized "java/util/NoSuchElementException", Cond.classLink "LiarsCockLaw" 13 "java/util/NoSuchElementException"], tables_1.contains w = true := by decide +kernel
  exact ⟨g_of (List.contains_iff_mem.mp (h _ (by simp))) rfl, g_of (List.contains_iff_mem.mp (h _ (by simp))) rfl, g_of (List.contains_iff_mem.mp (h _ (by simp))) rfl⟩
section CTOR
variable {p : Program} {l : Launch} {e : Env} {R : Room} {s : State} {m₀ : MethodId} {args : Array Value} {below : List Frame} {meth : Method} {c : Code} {Wt : State} {locs : List Loc} {cells slots : Nat}
/-! eCtor, eThrowW follow Jvm.Stand.ctorThrowS (BundleOwnThrow) and vx_throwSW, with the pool entry 13 where those have 7 -/
set_option maxHeartbeats 4000000 in
theorem eCtor (X : Stand p l e R s m₀ args below meth c Wt locs cells slots) (hexec : p.tables.exec = Jvm.exec) (htr : e.platform.stackTraces = false) 
    (hown : s.vm.findClass "LiarsCock" = some m₀.cls)
    (h : ∀ a ∈ eAtW, a.before args s = true)
    (hlocs : ∀ x ∈ locs, ∀ cell, s.heap[x.base]? = some cell → cell.vm.isStatics = false)
    {a : Addr} {cX : ClassId} {kX : Class} (hfoundX : s.vm.findClass "java/util/NoSuchElementException" = some cX) (hkX : s.vm.classes[cX]? = some kX) (hcell : Wt.heap[a]? = some (freshCell cX kX)) (hnew : s.heap.size ≤ a)
    {msg : Value} (hmsg : msg.isRef = true)
    {g : JFrame} (hg : g.method = m₀) (hsize : g.locals.size = c.maxLocals) (hlocked : g.locked = none) (hentered : g.entered = []) {rest : List Value} (hstack : g.stack = msg :: .ref a :: .ref a :: rest)
    (hd6 : decode c.code g.pc = .ok (.invokespecial 335, 3)) (hd9 : decode c.code (g.pc + 3) = .ok (.athrow, 1)) (hout : ∀ x ∈ c.exceptionTable.toList, covers x (g.pc + 3) = false)
    (hRframes : 5 < R.frames) (hRlocals : 2 * g.monitorRoom + ((Value.ref a :: rest).map fun v => v.category).sum + (13 * 3 + 42) ≤ R.locals) (hlocks : meth.locks = false := by first | assumption | exact BodyLoose.notSynchronized (by assumption) | exact Body.notSynchronized (by assumption)) :
    ∃ U : State, Steps p.tables e below (Wt.setTop g) U ∧ U.status = .running ∧ Ended U below (.threw a) ∧ s.WarmedH U.vm ∧ s.sameButNew ({ U with vm := s.vm } : State) locs cells slots ∧
      ∃ ce, U.heap[a]? = some ce ∧ ce.vm = .none ∧ ce.cls = cX := by
  have howns : e.platform.frameOwnsMonitors = true := by rw [X.admits.platform]
  have hfin : e.platform.finalization = false := by rw [X.admits.platform]
  have hpl : e.platform.magicAccessors = ({} : Platform).magicAccessors := by rw [X.admits.platform]
  have a' : ∀ x, x ∈ eAtW → x.holds args s none s [] = true := fun x hx => h x hx
  obtain ⟨T, Z0, L, -, Y⟩ := ThrowableC.of_atoms (args := args) howns hfin hpl (fun x hx => h x (by simp [eAtW, hx]))
  obtain ⟨Z, M, LZ, LM, hnZ⟩ := Init0T.ofS_atoms (args := args) hpl L Y (fun x hx => h x (by simp [eAtW, hx]))
  obtain ⟨P1, L1, hP1m, hP1s⟩ := PassC.ofS_atoms (args := args) (s := s) (index := 13) (bytes := prog_21_method_4_code) hpl (X := "java/util/NoSuchElementException") (Y := "java/lang/RuntimeException") (by decide +kernel) ⟨by decide, by decide⟩ (by decide +kernel) (by decide +kernel) (by decide +kernel) (by decide +kernel) (fun x hx => h x (by simp only [eAtW, List.mem_append]; exact Or.inl (Or.inl (Or.inr hx))))
  obtain ⟨P2, Ps2, hlen2, L2, hL2, hP2m, hsup2, hlink2⟩ := Bundle.chainS (args := args) hpl hnZ ["java/lang/Exception"] "java/lang/RuntimeException" (by decide +kernel) (by decide +kernel) (fun x hx => h x (by simp only [eAtW, List.mem_append]; exact Or.inl (Or.inr hx)))
  have hlink1 : P1.sup = firstOf (Z.m T.toThrowableT) ((P2 :: Ps2).map (·.toPassT)) := Option.some.inj (hP1s.symm.trans hP2m)
  have hlink : PassesOn (Z.m T.toThrowableT) ((P2 :: Ps2).map (·.toPassT)) := ⟨hsup2, hlink2⟩
  have hL : ∀ P ∈ P2 :: Ps2, P.LinksS e.platform s := fun P hP => by
    rcases List.mem_cons.mp hP with rfl | hP
    · exact L2
    · exact hL2 P hP
  have hlen : (P2 :: Ps2).length = 2 := by rw [List.length_cons, hlen2]; rfl
  have hfound : s.vm.findClass "java/util/NoSuchElementException" = some P1.m.cls := findClass_of_methodNamed hP1m
  cases Option.some.inj (hfoundX.symm.trans hfound)
  obtain ⟨c1, kX', hc1, hk, hord, -, -, hn6⟩ := Cond.instantiable_spec (a' (.instantiable "java/util/NoSuchElementException" 6) (by simp [eAtW]))
  cases Option.some.inj (hc1.symm.trans hfound)
  cases Option.some.inj (hkX.symm.trans hk)
  have hsel0 : selectMethod e.platform s.vm P1.m.cls T.fill0 = .method T.fill0 := by
    obtain ⟨c2, r2, m2, q1, q2, q3, q4, -⟩ := Cond.selects_spec (a' (.selects "java/util/NoSuchElementException" Bundle.tFill0 Bundle.tFill0) (by simp [eAtW]))
    cases Option.some.inj (q1.symm.trans hfound)
    cases Option.some.inj (q2.symm.trans (State.methodFound?_of_named Y.fill0 (by decide)))
    cases Option.some.inj (q3.symm.trans Y.fill0)
    rw [Launch.admits_selectMethod X.admits]; exact q4
  have hselF : selectMethod e.platform s.vm P1.m.cls T.fill = .method T.fill := by
    obtain ⟨c2, r2, m2, q1, q2, q3, q4, -⟩ := Cond.selects_spec (a' (.selects "java/util/NoSuchElementException" Bundle.tFill Bundle.tFill) (by simp [eAtW]))
    cases Option.some.inj (q1.symm.trans hfound)
    cases Option.some.inj (q2.symm.trans (State.methodFound?_of_named Y.fill (by decide)))
    cases Option.some.inj (q3.symm.trans Y.fill)
    rw [Launch.admits_selectMethod X.admits]; exact q4
  obtain ⟨cellS0, hcS0, hiss⟩ := Y.statics
  obtain ⟨u0, hu0⟩ := Cond.staticRefV Y.unassigned L.unassignedStatic L.statics hcS0 hiss (a' (.isRef (.static Bundle.tN "UNASSIGNED_STACK" Bundle.steD)) (by simp [eAtW]))
  obtain ⟨sen, hsen⟩ := Cond.staticRefV Y.sentinel L.sentinelStatic L.statics hcS0 hiss (a' (.isRef (.static Bundle.tN "SUPPRESSED_SENTINEL" Bundle.listD)) (by simp [eAtW]))
  obtain ⟨ci198, i198, fB, hk198, hg198, ha198, hsB, -, hnB, htB, hffB⟩ := Cond.ownField (t := .object "java/lang/Object") Y.found L.cls (by decide +kernel) (a' (.fieldLink Bundle.tN 198 Bundle.tN "backtrace" "Ljava/lang/Object;") (by simp [eAtW])) (a' (.lays Bundle.tN Bundle.tN "backtrace" "Ljava/lang/Object;") (by simp [eAtW])) e.platform hpl
  obtain ⟨cellS, hcS', heS, -, hkeep⟩ := X.same.2.2.2.2.2 T.aS cellS0 hcS0
  have hcellS : Wt.heap[T.aS]? = some cellS := hcS'
  have hout' : ∀ i, (⟨T.aS, i⟩ : Loc) ∉ locs := fun i hmem => by
    have := hlocs _ hmem cellS0 hcS0
    rw [hiss] at this; cases this
  have hknownS : cellS.vm ≠ .unknown := by
    rw [heS]; intro hu
    rw [show cellS0.vm = .unknown from hu] at hiss
    cases hiss
  have hneS : T.aS ≠ a := Nat.ne_of_lt (Nat.lt_of_lt_of_le (Array.getElem?_eq_some_iff.mp hcS0).1 hnew)
  obtain ⟨iM, hffM⟩ := Y.msg
  obtain ⟨tyC, dC, hdC, hdnC⟩ := Cond.laysAt hfound hk Y.cause (a' (.lays "java/util/NoSuchElementException" Bundle.tN "cause" "Ljava/lang/Throwable;") (by simp [eAtW]))
  obtain ⟨tyS, dS, hdS, hdnS⟩ := Cond.laysAt hfound hk Y.stack (a' (.lays "java/util/NoSuchElementException" Bundle.tN "stackTrace" Bundle.steD) (by simp [eAtW]))
  obtain ⟨tyP, dP, hdP, hdnP⟩ := Cond.laysAt hfound hk Y.supp (a' (.lays "java/util/NoSuchElementException" Bundle.tN "suppressedExceptions" Bundle.listD) (by simp [eAtW]))
  obtain ⟨tyM, dM, hdM, hdnM⟩ := Cond.laysAt hfound hk hffM (a' (.lays "java/util/NoSuchElementException" Bundle.tN "detailMessage" "Ljava/lang/String;") (by simp [eAtW]))
  obtain ⟨tyB, dB, hdB, hdnB⟩ := Cond.laysAt hfound hk hffB (a' (.lays "java/util/NoSuchElementException" Bundle.tN "backtrace" "Ljava/lang/Object;") (by simp [eAtW]))
  have bC := Cond.laysApart hdB hdC hdnB hdnC (by rw [hnB, Y.causeName]; decide)
  have bS := Cond.laysApart hdB hdS hdnB hdnS (by rw [hnB, Y.stackName]; decide)
  have bP := Cond.laysApart hdB hdP hdnB hdnP (by rw [hnB, Y.suppName]; decide)
  have hskip : SkipFacts T e.platform s (fun u => u) u0 ((preparedCellV T.toThrowableT (freshCell P1.m.cls kX) a u0 sen).withEntry Wt.cur) :=
    ⟨{ ci198 := ci198, i198 := i198, fBack := fB }, ⟨hk198, hg198, ha198, hsB⟩, by
      have := fresh_default (c := P1.m.cls) tyB
      rw [htB] at this
      simpa [preparedCellV, Cell.setSlot, Cell.withEntry, Array.getElem?_setIfInBounds, bC, bS, bP, bC.symm, bS.symm, bP.symm, defaultValue] using this, fun _ _ => rfl⟩
  obtain ⟨tm, methC, cdC, kC, vm₁, hnC, -, -, -, -, -, -, -, hW₁, st1⟩ := Steps.initColdS (tb := p.tables) (e := e) (below := below) (s := s) (U := Wt) X.here hexec X.warmed hpl hown (t := Bundle.initS "java/util/NoSuchElementException") rfl rfl ⟨by decide, by decide⟩
    (a' (.methodLink "LiarsCock" 335 (Bundle.initS "java/util/NoSuchElementException")) (by simp [eAtW])) (h (.instanceMethod (Bundle.initS "java/util/NoSuchElementException")) (by simp [eAtW, Bundle.passSAtoms])) (bytes := prog_21_method_4_code) (maxL := 2) (h (.code (Bundle.initS "java/util/NoSuchElementException") prog_21_method_4_code 2 none) (by simp [eAtW, Bundle.passSAtoms]))
    (f := g) hg (a := a) (msg := msg) (rest := .ref a :: rest) hstack hd6
  cases Option.some.inj (hnC.symm.trans hP1m)
  have X₁ := X.noted hW₁
  obtain ⟨vm₂, X₂, st2⟩ := X₁.ctorMessageOffV hexec (g := { g with stack := .ref a :: rest }) hg hsize T L Z LZ M LM (P1 :: P2 :: Ps2)
    (fun P hP => by rcases List.mem_cons.mp hP with rfl | hP; exact L1; exact hL P hP) ⟨hlink1, hlink⟩ (u0 := u0) (sen := sen) (self := a) hmsg (cell := freshCell P1.m.cls kX) (cellS := cellS)
    hcell (fun _ => by simp) (by simp) rfl rfl hsel0 hselF hcellS hneS hknownS (by rw [hkeep _ (hout' _)]; exact hu0) (by rw [hkeep _ (hout' _)]; exact hsen)
    (Takes.of_laid hk hord tyC (by rw [Y.causeType]; rfl)) (Takes.of_laid hk hord tyS (by rw [Y.stackType]; exact fits_refV_array _ u0)) (Takes.of_laid hk hord tyP (by rw [Y.suppType]; exact fits_refV_object _ sen))
    (Takes.of_laid hk hord tyM (by rw [Y.msgType]; exact fits_refV_object _ ⟨msg, hmsg⟩)) Y.objLocals hskip htr [] hd6
    (by simp only [List.length_cons] at hlen ⊢; omega) (by simp only [List.length_cons] at hlen ⊢; rw [hlen]; exact hRlocals)
  obtain ⟨hwalk, hrun, hended, hWU, hsame⟩ := X₂.athrowLeaves hexec (g := { g with stack := .ref a :: rest, pc := g.pc + 3 }) hg hlocked hentered hout (a := a) (rest := rest) rfl hd9
  have hlt : a < ((Wt.setVm vm₁).setVm vm₂).heap.size := (Array.getElem?_eq_some_iff.mp hcell).1
  have hU := heapAt_setCell_self (s := (Wt.setVm vm₁).setVm vm₂) (plainBareV T.toThrowableT (freshCell P1.m.cls kX) a u0 sen msg) hlt
  refine ⟨_, st1 _ (fun acts => ?_), hrun, hended, hWU, hsame.weaken (fun y hy hlt' => ?_) (Nat.le_refl _) (Nat.le_refl _), _, hU, rfl, rfl⟩
  · rw [doInvoke_state]
    exact st2 _ hwalk
  · rcases List.mem_append.mp hy with h1 | h1
    · exact h1
    · exfalso
      have hb : y.base = a := by
        simp only [List.mem_cons, List.not_mem_nil, or_false] at h1
        rcases h1 with rfl | rfl | rfl | rfl | rfl <;> rfl
      rw [hb] at hlt'
      exact Nat.not_lt.mpr hnew hlt'
end CTOR
section THROWW
variable {p : Program} {l : Launch} {e : Env} {R : Room} {s : State} {m : MethodId} {args : Array Value} {below : List Frame} {meth : Method} {c : Code} {H : Heap} {locs : List Loc} {cells slots : Nat} {Q : State → Prop}
variable {mc ms : Nat} {free : Addr → Prop} {ls : Array Slot} {rest : List Value} {Qc : Array Value → State → Outcome → State → Prop} {XC : String → State → State → Prop}
set_option maxHeartbeats 4000000 in
theorem eThrowW {cc : ByteArray} {pc : Nat} (hexec : p.tables.exec = Jvm.exec) (hb : c.code = cc) (hl : l.stackTraces = false) {text : String} {is sa : Nat} {A : Nat → Prop}
    (hown : s.vm.findClass "LiarsCock" = some m.cls)
    (hk : (Cond.classLink "LiarsCock" 331 "java/util/NoSuchElementException").before args s = true) (hini : (Cond.initialized "java/util/NoSuchElementException").before args s = true) (hstr : vk_R "LiarsCock" is text sa s) (hat : ∀ w ∈ eAtW.filter vx_no, w.before args s = true)
    (hU : vx_Zq Bundle.tN "UNASSIGNED_STACK" Bundle.steD A s s.heap) (hN : vx_Zq Bundle.tN "SUPPRESSED_SENTINEL" Bundle.listD A s s.heap) (hS : va_S A s.heap H locs) (hsize : ls.size = c.maxLocals)
    (d0 : decode cc pc = .ok (.new 331, 3)) (d3 : decode cc (pc + 3) = .ok (.dup, 1)) (d4 : decode cc (pc + 4) = .ok (.ldc_w is, 3)) (d7 : decode cc (pc + 7) = .ok (.invokespecial 335, 3)) (d10 : decode cc (pc + 10) = .ok (.athrow, 1))
    (hout : ∀ x ∈ c.exceptionTable.toList, covers x (pc + 10) = false)
    (hRframes : 5 < R.frames) (hRlocals : (rest.map fun v => v.category).sum + 82 ≤ R.locals) (hRcells : cells + 1 ≤ R.cells) (hRslots : slots + 6 ≤ R.slots) (hlocks : meth.locks = false)
    (hx : ∀ t : State, s.vm.Alike t.vm → H.size ≤ t.heap.size → (∀ q : Nat, q < H.size → t.heap[q]? = H[q]?) → XC "java/util/NoSuchElementException" s t)
    (hf : ∀ z ∈ locs, free z.base) (hc : cells + 1 ≤ mc) (hs : slots + 6 ≤ ms) :
    W p l e R s m args below meth c H locs cells slots (vx_MQ below Qc XC args s mc ms free) (F0 m pc ls rest) := by
  intro T hT X
  have htr : e.platform.stackTraces = false := (show e.platform.stackTraces = l.stackTraces by rw [X.admits.platform]).trans hl
  have Y := vx_rebase X (R' := { frames := R.frames, locals := R.locals, cells := 1, slots := 6 }) (Nat.le_refl _) (Nat.le_refl _) hRcells hRslots
  obtain ⟨s', hA⟩ : ∃ z, z = (T.setVm s.vm).setFrames (.invoking m args :: below) := ⟨_, rfl⟩
  rw [← hA] at Y
  have hvm : s'.vm = s.vm := by rw [hA]; rfl
  have hhp : s'.heap = H := by rw [hA]; exact hT
  have hW0 : s.WarmedH s'.vm := by rw [hvm]; exact State.WarmedH.refl s
  have hat' : ∀ w ∈ eAtW.filter vx_no, w.before args s' = true := fun w hw => vx_ot_at hW0 hvm.symm (tAtS2 w (List.mem_cons_of_mem _ (List.mem_cons_of_mem _ hw))) (hat w hw)
  have hk' := vx_ot_at hW0 hvm.symm (tAtS2 _ List.mem_cons_self) hk (a' := args)
  have hini' := vx_ot_at hW0 hvm.symm (tAtS2 _ (List.mem_cons_of_mem _ List.mem_cons_self)) hini (a' := args)
  have hU' : vx_Zq Bundle.tN "UNASSIGNED_STACK" Bundle.steD A s' s'.heap := by rw [hhp]; exact vx_Zq.moved hW0.alike (hU.kept hS.2.1)
  have hN' : vx_Zq Bundle.tN "SUPPRESSED_SENTINEL" Bundle.listD A s' s'.heap := by rw [hhp]; exact vx_Zq.moved hW0.alike (hN.kept hS.2.1)
  have h : ∀ w ∈ eAtW, w.before args s' = true := vx_own hat' (vx_isRefq hU'.1) (vx_isRefq hN'.1) hU'.2.word hN'.2.word
  have hown' : s'.vm.findClass "LiarsCock" = some m.cls := by rw [hvm]; exact hown
  have hins : (Cond.instantiable "java/util/NoSuchElementException" 6).before args s' = true := h _ (by simp [eAtW])
  obtain ⟨vm₁, cX, kX, hfX, hkX, -, -, X₁, st1⟩ := Y.newCold hexec (own := "LiarsCock") (C := "java/util/NoSuchElementException") (index := 331) (n := 6) hown' hk' hins hini'
    (g := F0 m pc ls rest) rfl (by rw [hb]; exact d0) (Nat.le_refl _) (Nat.le_refl _)
  generalize hT1 : (T.setVm vm₁).pushCell { cls := cX, slots := kX.instanceTypes.map defaultValue, vm := .none } = T1 at X₁ st1
  have hcat : (Value.ref T.heap.size).category = 1 := rfl
  have hcellA : T1.heap[T.heap.size]? = some (freshCell cX kX) := by rw [← hT1]; exact State.heap_pushCell_size _ _
  have d3' : decode c.code (pc + 3) = .ok (.dup, 1) := by rw [hb]; exact d3
  have d4' : decode c.code (pc + 4) = .ok (.ldc_w is, 3) := by rw [hb]; exact d4
  have hstr' : vk_R "LiarsCock" is text sa s' := vk_R.warm hW0 hstr
  obtain ⟨U, hsteps, hrun, hend, hW, hsame, ce, hce, hO, hOc⟩ := eCtor X₁ hexec htr hown' h (fun x hx => nomatch hx) hfX hkX hcellA (by rw [hhp, hT]; exact Nat.le_refl _) (msg := .ref sa) rfl
    (g := { method := m, pc := pc + 7, locals := ls, stack := .ref sa :: .ref T.heap.size :: .ref T.heap.size :: rest, locked := none }) rfl hsize rfl rfl (rest := rest) rfl
    (by rw [hb]; exact d7) (by rw [hb]; exact d10) hout hRframes (by simp only [List.map_cons, List.sum_cons, hcat]; show 2 * 0 + _ + _ ≤ R.locals; omega) hlocks
  obtain ⟨f1, f2⟩ := vx_frame hsame
  rw [hhp] at f1 f2
  have hWs : s.WarmedH U.vm := State.WarmedH.trans hW0 hW
  have hcl : s.vm.findClass "java/util/NoSuchElementException" = some ce.cls := by rw [hOc, ← hfX, hvm]
  have hall : s.sameButNew ({ U with vm := s.vm } : State) locs mc ms := by
    subst hA
    obtain ⟨e1, e2⟩ := hsame
    rw [State.setFrames_setFrames] at e1
    have h2 : (T.setVm s.vm).sameButNew ({ U with vm := s.vm } : State) [] (0 + 1) (0 + 6) := ⟨e1, e2⟩
    have h3 := X.same.trans h2
    rw [List.append_nil] at h3
    exact h3.mono hc hs
  refine ⟨U, ?_, .threw T.heap.size, hrun, hend, Or.inr ⟨T.heap.size, rfl, "java/util/NoSuchElementException", ce, locs, hx U hWs.alike f1 (fun q hq => f2 q hq (fun z hz => nomatch hz)), hce, hO, hcl, hWs, hall, hf⟩⟩
  refine st1 _ ?_
  show Steps p.tables e below (T1.setTop { method := m, pc := pc + 3, locals := ls, stack := .ref T.heap.size :: rest, locked := none }) _
  jvm_step X₁.here [X₁.here.top, hexec, d3', Value.category]
  exact X₁.ldcStringW hexec (own := "LiarsCock") (text := text) (index := is) (a := sa) hown' hstr'.1 hstr'.2
    (g := { method := m, pc := pc + 4, locals := ls, stack := .ref T.heap.size :: .ref T.heap.size :: rest, locked := none }) rfl d4' _ hsteps
end THROWW
def eXC (G : eG) (m : eM) (ad : Nat → Nat) (m' : eM) : String → State → State → Prop := fun E st t => E = "java/util/NoSuchElementException" ∧ st.heap.size ≤ t.heap.size ∧ ∃ ad' : Nat → Nat, (∀ a, a < gX m → ad' a = ad a) ∧ Hp G t m' ad' t.heap
theorem dThr : mC eThr = 9 ∧ cN 9 = "LiarsCock" ∧ decode (mB eThr) 64 = .ok (.new 331, 3) ∧ decode (mB eThr) 67 = .ok (.dup, 1) ∧ decode (mB eThr) 68 = .ok (.ldc_w 333, 3) ∧ decode (mB eThr) 71 = .ok (.invokespecial 335, 3) ∧ decode (mB eThr) 74 = .ok (.athrow, 1) ∧ decode (mB eThr) 142 = .ok (.new 331, 3) ∧ decode (mB eThr) 145 = .ok (.dup, 1) ∧ decode (mB eThr) 146 = .ok (.ldc_w 339, 3) ∧ decode (mB eThr) 149 = .ok (.invokespecial 335, 3) ∧ decode (mB eThr) 152 = .ok (.athrow, 1) := by decide +kernel
theorem eThr_lt : eThr < eNC := by decide
set_option maxHeartbeats 4000000 in
theorem eMetX {l : Launch} (hl : l.stackTraces = false) {G : eG} {n : Nat} (ih : RS l G n) {d : Nat} {as : List Value} {m : eM} {ad : Nat → Nat} {m' : eM} (hr : run n d eThr 0 (eIni (mL eThr) as) [] m = some (none, m')) (hlen : (eArg as).length ≤ mL eThr) (hrv : ∀ v ∈ as, eRv m v) :
    vx_Met l (mN eThr) (eWs eThr) (eRm d (gH m' - gH m) (gS m' - gS m)) (ePc G as m ad) (fun _ _ _ _ => False) (eXC G m ad m') (gH m' - gH m) (gS m' - gS m) (fun q => G.2.1 ≤ q) := by
  have hy : eThr < eNC := eThr_lt
  refine vx_ofW (cc := mB eThr) (maxL := mL eThr) (ret := mR eThr) (tMs (Nat.lt_succ_of_lt hy)).2.2.2.2.2.1 rfl ?_
  intro p e s mid args below meth c s₁ B hml hX hv
  obtain ⟨F, e8, la, e1, o⟩ := eEntry0 (fun w hw => List.mem_cons_of_mem _ hw) (Nat.lt_succ_of_lt hy) hlen hrv B hml hv
  rw [e1]
  have := ih d eThr 0 _ [] m _ m' hr p e (headSpec (eWs eThr) (eRm d (gH m' - gH m) (gS m' - gS m))).room s mid args below meth c (vx_MQ below (fun _ _ _ _ => False) (eXC G m ad m') args s (gH m' - gH m) (gS m' - gS m) (fun q => G.2.1 ≤ q)) (gH m) (gS m) ad s.heap [] la F (fun z => absurd z (Nat.ne_of_lt hy)) (Nat.le_refl _) (Nat.le_refl _) (Nat.le_refl _) (Nat.le_refl _) (Nat.le_refl _) (Nat.le_refl _) o
    (fun v' pc' i len ls' stf la' ad' H' locs' hag hv' => by cases hv') ?_
  · simp only [eW, Nat.sub_self] at this
    exact this
  intro m1 pc' k len ls' stf la' ad' H' locs' hag _ hm1 hdec hlen3 hthr o' hh1 hs1
  subst hm1
  subst hlen3
  obtain ⟨hthr, h8c, h10⟩ := hthr
  have gh : gH (sX m1 6) = gH m1 + 1 := rfl
  have gs : gS (sX m1 6) = gS m1 + 6 := rfl
  obtain ⟨t1, t2, d1, d2, d3, d4, d5, g1, g2, g3, g4, g5⟩ := dThr
  have hown := F.2.2.2.2.2.1
  rw [t1, t2] at hown
  have hts := F.2.2.2.2.2.2.1
  obtain ⟨_, _, _, _, _, _, h7, h8, ⟨a1, h9⟩, ⟨a2, h10'⟩, h11, h12⟩ := F.2.2.2.2.2.2.2.1
  have hat : ∀ w ∈ eAtW.filter vx_no, w.before args s = true := fun w hw => by
    rcases tAtS w hw with z | ⟨x, hx, rfl⟩ | ⟨x, hx, rfl⟩
    · exact hts w z
    · exact va_Nw.use rfl (h11 x hx)
    · exact va_Nw.use rfl (h12 x hx)
  have hlow : ∀ a : Nat, a < G.2.2.1.size → ¬ G.2.1 ≤ a → s.heap[a]? = G.2.2.1[a]? := fun a _ h => e8 a (Nat.lt_of_not_le h)
  have hU := h7.kept hlow
  have hN := h8.kept hlow
  have hS : va_S (fun q => G.2.1 ≤ q) s.heap H' locs' := by
    refine ⟨o'.1.2.2.2.1, fun q hq hq2 => ?_, o'.2.2.2.1⟩
    have h1 := o'.1.2.2.2.2.2.1 q (Nat.lt_of_not_le hq2)
    have h2 := e8 q (Nat.lt_of_not_le hq2)
    rw [h1, h2]
  have hsz : la'.size = c.maxLocals := by rw [F.2.2.1]; exact o'.2.1.1.trans o'.2.2.1
  have hcat : ((stf.map (mv ad')).map fun v => v.category).sum = eCat stf := eCat_mv _ _
  have hxx : ∀ t : State, s.vm.Alike t.vm → H'.size ≤ t.heap.size → (∀ q : Nat, q < H'.size → t.heap[q]? = H'[q]?) → eXC G m ad (sX m1 6) "java/util/NoSuchElementException" s t := fun t hal hz hq =>
    ⟨rfl, Nat.le_trans o'.1.2.2.2.1 hz, ad', hag, (o'.1.bornX hz hq).moved hal (Nat.le_refl _)⟩
  have hRf : 5 < (headSpec (eWs eThr) (eRm d (gH (sX m1 6) - gH m) (gS (sX m1 6) - gS m))).room.frames := by show 5 < d; omega
  have hRl : ((stf.map (mv ad')).map fun v => v.category).sum + 82 ≤ (headSpec (eWs eThr) (eRm d (gH (sX m1 6) - gH m) (gS (sX m1 6) - gS m))).room.locals := by rw [hcat]; show _ + 82 ≤ 40 * d; omega
  have hRc : gH m1 - gH m + 1 ≤ (headSpec (eWs eThr) (eRm d (gH (sX m1 6) - gH m) (gS (sX m1 6) - gS m))).room.cells := by show _ ≤ gH (sX m1 6) - gH m; omega
  have hRs : gS m1 - gS m + 6 ≤ (headSpec (eWs eThr) (eRm d (gH (sX m1 6) - gH m) (gS (sX m1 6) - gS m))).room.slots := by show _ ≤ gS (sX m1 6) - gS m; omega
  have hsite : pc' = 64 ∨ pc' = 142 := by
    have : (xRes (mC eThr) k && eSites.contains (eThr, pc')) = true := hthr
    simp only [Bool.and_eq_true] at this
    have h1 := List.contains_iff_mem.mp this.2
    simp only [eSites, List.mem_cons, List.not_mem_nil, or_false, Prod.mk.injEq, true_and] at h1
    exact h1
  rcases hsite with rfl | rfl
  · exact eThrowW F.1 F.2.1 hl hown (hts _ tXl.1) (hts _ tXl.2.1) h9 hat hU hN hS hsz d1 d2 d3 d4 d5 (fun x hx => (hX x hx).elim) hRf hRl hRc hRs F.2.2.2.2.1 hxx o'.2.2.2.1 (by omega) (by omega)
  · exact eThrowW F.1 F.2.1 hl hown (hts _ tXl.1) (hts _ tXl.2.1) h10' hat hU hN hS hsz g1 g2 g3 g4 g5 (fun x hx => (hX x hx).elim) hRf hRl hRc hRs F.2.2.2.2.1 hxx o'.2.2.2.1 (by omega) (by omega)
def wSec : Cond := Cond.codeWith (mN eSec) (mB eSec) (mL eSec) (mR eSec) [(0, 15, 18, 13)]
set_option maxRecDepth 100000 in
theorem tSec : wSec ∈ gtbl := g_of (List.mem_append_right _ (List.mem_append_right _ (List.mem_append_right _ (List.mem_append_right _ (List.mem_append_left _ (List.mem_of_getElem? (i := 219) rfl)))))) rfl
theorem tSec2 : Cond.static (mN eSec) ∈ gtbl := g_of (List.contains_iff_mem.mp (by decide +kernel)) rfl
theorem eMetSec {l : Launch} {G : eG} {n : Nat} (ih : RS l G n) {d : Nat} {as : List Value} {m : eM} {ad : Nat → Nat} {v : Option Value} {m' : eM} (hr : run n d eSec 0 (eIni (mL eSec) as) [] m = some (some v, m')) (hlen : (eArg as).length ≤ mL eSec) (hrv : ∀ v ∈ as, eRv m v) :
    vx_Met l (mN eSec) (wSec :: gtbl) (eRm d (gH m' - gH m) (gS m' - gS m)) (ePc G as m ad) (eQc G v m ad m') (fun _ _ _ => False) (gH m' - gH m) (gS m' - gS m) (fun q => G.2.1 ≤ q) := by
  refine vx_ofWH (cc := mB eSec) (maxL := mL eSec) (ret := mR eSec) (hh := [(0, 15, 18, 13)]) (tMs (show eSec < eNC + 1 by decide)).2.2.2.2.2.1 rfl ?_
  intro p e s mid args below meth c s₁ B hml hv
  obtain ⟨F, -, la, e1, o⟩ := eEntry0 (fun w hw => List.mem_cons_of_mem _ hw) (show eSec < eNC + 1 by decide) hlen hrv B hml hv
  rw [e1]
  have hT : c.exceptionTable.toList = tableOf [(0, 15, 18, 13)] := vx_table (x := mN eSec) B (atoms_spec (ws := wSec :: gtbl) B.pre _ List.mem_cons_self)
  have := ih d eSec 0 _ [] m _ m' hr p e (headSpec (wSec :: gtbl) (eRm d (gH m' - gH m) (gS m' - gS m))).room s mid args below meth c (vx_MQ below (eQc G v m ad m') (fun _ _ _ => False) args s (gH m' - gH m) (gS m' - gS m) (fun q => G.2.1 ≤ q)) (gH m) (gS m) ad s.heap [] la F (fun _ => hT) (Nat.le_refl _) (Nat.le_refl _) (Nat.le_refl _) (Nat.le_refl _) (Nat.le_refl _) (Nat.le_refl _) o
    (fun v' pc' i len ls' stf la' ad' H' locs' hag hv' hd hlen hfin o' => by cases hv'; exact vx_ret (eEnd F hag hd hlen hfin o'))
    (fun m1 pc' k len ls' stf la' ad' H' locs' hag hv' => by cases hv')
  simp only [eW, Nat.sub_self] at this
  exact this
section CALLX
variable {G : eG} {p : Program} {l : Launch} {e : Env} {R : Room} {s : State} {mid : MethodId} {args : Array Value} {below : List Frame} {meth : Method} {c : Code} {Q : State → Prop} {h0 s0 μ : Nat}
variable {pc : Nat} {ls st : List Value} {m m1 : eM} {ad : Nat → Nat} {H : Heap} {locs : List Loc} {la : Array Slot}
/-- the law's call of the method that catches -/
theorem eRunSec (F : FR G p s mid args meth c μ) {k d mc ms : Nat} {v : Option Value} (hd : decode (mB μ) pc = .ok (.invokestatic k, 3)) (hres : mRes (mC μ) k = some eSec) {as rest : List Value} (hst : st = as.reverse ++ rest) (hok : eOK eSec 2 as rest = true)
    (hM : vx_Met l (mN eSec) (wSec :: gtbl) (eRm d mc ms) (ePc G as m ad) (eQc G v m ad m1) (fun _ _ _ => False) mc ms (fun q => G.2.1 ≤ q)) (hR : d + 1 ≤ R.frames) (hL : 40 * (d + 1) ≤ R.locals) (o : eO G s μ m ad ls st H locs la) (hf : gH m - h0 + mc ≤ R.cells ∧ gS m - s0 + ms ≤ R.slots) :
    va_Run p l e R s mid args below meth c H locs (gH m - h0) (gS m - s0) mc ms (F0 mid pc la (st.map (mv ad))) (rest.map (mv ad)) (eQc G v m ad m1 (as.map (mv ad)).toArray) (fun q => G.2.1 ≤ q) := by
  have hT := tMs (show eSec < eNC + 1 by decide)
  have F' := F
  obtain ⟨hx, hb, hml, -, -, hown, hts, hK, -⟩ := F'
  have hG : GoodIn gtbl (wSec :: gtbl) := g_goodIn fun w hw => (List.mem_cons.mp hw).elim (fun e => e ▸ tSec) (fun h => h)
  have hini : (Cond.initialized (mN eSec).cls).before args s = true := by rw [hT.1]; exact hts _ (tIn _ hT.2.2.2.2.2.2.1)
  have hpc : ∀ U : State, U.heap = H → s.WarmedH U.vm → ePc G as m ad (as.map (mv ad)).toArray U := fun U hU hW => ⟨rfl, Kn.moved hW hK, by rw [hU]; exact o.1.moved hW.alike (by rw [hU]; exact Nat.le_refl _)⟩
  have S : CallFix p mid c (mB μ) (mL μ) s args gtbl (cN (mC μ)) := ⟨hx, hb, hml, hown, hts⟩
  have hsz : (F0 mid pc la (st.map (mv ad))).locals.size = mL μ := o.2.1.1.trans o.2.2.1
  unfold eOK at hok
  simp only [Bool.and_eq_true, decide_eq_true_eq, beq_iff_eq] at hok
  obtain ⟨⟨⟨⟨k1, k2⟩, k3⟩, k4⟩, k5⟩ := hok
  have hW : 2 * (F0 mid pc la (st.map (mv ad))).monitorRoom + ((rest.map (mv ad)).map fun v => v.category).sum ≤ 8 := by
    have := eCat_mv ad rest
    unfold eCat at this k2
    show 2 * 0 + _ ≤ 8
    omega
  rw [if_pos trivial] at k4
  have h9 : (wMr (mC μ, k, eSec)).before args s = true := hts _ (tMr _ (eR2_mem hres))
  have hp : PreS s H (ePc G as m ad) (as.map (mv ad)) := ⟨ePc_blind, hpc⟩
  have hn : (as.map (mv ad)).length = mP eSec := by rw [List.length_map, ← k1]
  have hstack : (F0 mid pc la (st.map (mv ad))).stack = (as.map (mv ad)).reverse ++ rest.map (mv ad) := by
    show st.map _ = _
    rw [hst]
    simp [List.map_reverse]
  have hpar : ∀ sig, parseMethodDescriptor (mN eSec).desc = some sig → mP eSec = sig.parameters.length := fun sig h => by
    have h2 := hT.2.2.2.1
    rw [h, k4] at h2
    exact (Option.some.inj h2).symm
  have cw : vx_CSW R s args (cN (mC μ)) k (mN eSec) (mB eSec) (mL eSec) (mR eSec) [(0, 15, 18, 13)] (wSec :: gtbl) (eRm d mc ms) mc ms (mP eSec) :=
    ⟨⟨rfl, rfl, hR, by have := hT.2.2.2.2.1; show 8 + (mL eSec + 11) + 40 * d ≤ _; omega, pay_in hts hG, List.mem_cons_self⟩, hts _ tSec, hini, ⟨hT.2.1, hT.2.2.1⟩, hpar, h9, hts _ tSec2⟩
  have hr := vx_runSX (e := e) (R := R) (below := below) (meth := meth) (H := H) (locs := locs) (cells := gH m - h0) (slots := gS m - s0) (g := F0 mid pc la (st.map (mv ad))) S hM cw hp rfl hn hsz hstack hW hd hf
  intro T hT X
  rcases hr T hT X with h | ⟨q, st₀, t, T', L, E, ce, -, -, -, -, -, hx, -⟩
  · exact h
  · exact hx.elim
theorem dSec : decode (mB eSec) 11 = .ok (.invokevirtual 7, 3) ∧ decode (mB eSec) 18 = .ok (.astore 7, 2) ∧ decode (mB eSec) 20 = .ok (.iconst 1, 1) ∧ decode (mB eSec) 21 = .ok (.ireturn, 1) ∧ eCall (mC eSec) (.invokevirtual 7) = some (eThr, 0) ∧ mRes 11 7 = some eThr ∧ mC eSec = 11 ∧ mR eSec = some .int ∧ mL eSec = 8 ∧ mC eThr = 9 ∧ cN 11 = "LiarsCockLaw" ∧ mS eThr = false ∧ mIni eThr = false := by decide +kernel
set_option maxHeartbeats 4000000 in
/-- the exception that comes out of it is caught -/
theorem eCatch (hl : l.stackTraces = false) (F : FR G p s mid args meth c eSec) (hXt : c.exceptionTable.toList = tableOf [(0, 15, 18, 13)]) {d mc ms : Nat} {as rest : List Value} (hmo : eMono m m1) (hc : mc = gH m1 - gH m) (hs : ms = gS m1 - gS m) (hh : h0 ≤ gH m) (hs0 : s0 ≤ gS m) (hst : st = as.reverse ++ rest) (hok : eOK eThr 0 as rest = true)
    (hM : vx_Met l (mN eThr) (eWs eThr) (eRm d mc ms) (ePc G as m ad) (fun _ _ _ _ => False) (eXC G m ad m1) mc ms (fun q => G.2.1 ≤ q)) (hR : d + 1 ≤ R.frames) (hL : 40 * (d + 1) ≤ R.locals) (o : eO G s eSec m ad ls st H locs la) (hf : gH m - h0 + mc ≤ R.cells ∧ gS m - s0 + ms ≤ R.slots)
    (kk : ∀ (ls' : List Value) (la' : Array Slot) (ad' : Nat → Nat) (H' : Heap) (locs' : List Loc), (∀ a, a < gX m → ad' a = ad a) → eO G s eSec m1 ad' ls' [.int 1] H' locs' la' → eW p l e R s mid args below meth c Q h0 s0 m1 ad' H' locs' la' 21 [.int 1]) :
    eW p l e R s mid args below meth c Q h0 s0 m ad H locs la 11 st := by
  have hy := eThr_lt
  have hT := tMs (Nat.lt_succ_of_lt hy)
  obtain ⟨d11, d18, d20, d21, -, hmr, t11, -, t8, t9, tN, tS, tI⟩ := dSec
  have F' := F
  obtain ⟨hx, hb, hml, -, -, hown, hts, hK, -⟩ := F'
  have hG := eWs_good hy
  have hini : (Cond.initialized (mN eThr).cls).before args s = true := by rw [hT.1]; exact hts _ (tIn _ hT.2.2.2.2.2.2.1)
  have hpc : ∀ U : State, U.heap = H → s.WarmedH U.vm → ePc G as m ad (as.map (mv ad)).toArray U := fun U hU hW => ⟨rfl, Kn.moved hW hK, by rw [hU]; exact o.1.moved hW.alike (by rw [hU]; exact Nat.le_refl _)⟩
  have S : CallFix p mid c (mB eSec) (mL eSec) s args gtbl (cN (mC eSec)) := ⟨hx, hb, hml, hown, hts⟩
  have hsz : (F0 mid 11 la (st.map (mv ad))).locals.size = mL eSec := o.2.1.1.trans o.2.2.1
  unfold eOK at hok
  simp only [Bool.and_eq_true, decide_eq_true_eq, beq_iff_eq] at hok
  obtain ⟨⟨⟨⟨k1, k2⟩, k3⟩, k4⟩, k5⟩ := hok
  have hW : 2 * (F0 mid 11 la (st.map (mv ad))).monitorRoom + ((rest.map (mv ad)).map fun v => v.category).sum ≤ 8 := by
    have := eCat_mv ad rest
    unfold eCat at this k2
    show 2 * 0 + _ ≤ 8
    omega
  have hl9 : (wMr (mC eSec, 7, eThr)).before args s = true := hts _ (tMr _ (eR2_mem (by rw [t11]; exact hmr)))
  rw [if_neg (by decide)] at k4
  simp only [Bool.and_eq_true, Bool.not_eq_true'] at k4
  obtain ⟨k4, k6⟩ := k4
  match as, k6, k1, hpc, hst, hM with
  | .ref a :: as2, k6, k1, hpc, hst, hM =>
    have k6 := of_decide_eq_true k6
    have hax : a < gX m := o.2.2.2.2.2 (.ref a) (by rw [hst]; simp)
    have hcell := eRecv F o.1 hax (by have := hT.2.2.2.2.2.2.1; omega)
    rw [k6, ← hT.1] at hcell
    have hp : PreV s H (mN eThr).cls (ad a) (ePc G (.ref a :: as2) m ad) (as2.map (mv ad)) := ⟨ePc_blind, hcell, hpc⟩
    have hn : (as2.map (mv ad)).length = mP eThr - 1 := by rw [List.length_map, ← k1]; rfl
    have hin : (Cond.instanceMethod (mN eThr)).before args s = true := hts _ (tInst' hy k4)
    have hsel : (Cond.selects (mN eThr).cls (mN eThr) (mN eThr)).before args s = true := by
      rcases tSel eThr hy k4 tI with z | z
      · exact hts _ (tPub _ z)
      · exact hts _ (tPriv _ z)
    have hstack : (F0 mid 11 la (st.map (mv ad))).stack = (as2.map (mv ad)).reverse ++ .ref (ad a) :: rest.map (mv ad) := by
      show st.map _ = _
      rw [hst]
      simp [List.map_reverse, mv]
    have hr := vx_runV (e := e) (below := below) (meth := meth) (locs := locs) (cells := gH m - h0) (slots := gS m - s0) (g := F0 mid 11 la (st.map (mv ad))) S hM ⟨callB_of (R := R) (mP eThr - 1) hts hG rfl rfl rfl hini hl9 ⟨hT.2.1, hT.2.2.1, by have := hT.2.2.2.1; rw [k4] at this; exact this⟩ ⟨hR, by have := hT.2.2.2.2.1; show 8 + (mL eThr + 11) + 40 * d ≤ _; omega⟩, hin, hsel⟩ hp rfl hn hsz hstack hW d11 hf
    intro T hT X
    rcases hr T hT X with ⟨_, _, _, _, _, -, -, -, -, -, hfalse, -⟩ | ⟨q, st₀, t, T', L, E, ce, e0, X', hLL, e1, e2, ⟨rfl, hz, ad', hag, hHp⟩, hce, hcv, hcl, stp⟩
    · exact hfalse.elim
    have hal : t.vm.Alike s.vm := by rw [← e2]; exact X'.warmed.alike.symm
    have hzz : s.heap.size ≤ T'.heap.size := by have := o.1.2.2.2.1; rw [e0] at hz; rw [e1]; exact Nat.le_trans this hz
    have hH1 : Hp G s m1 ad' T'.heap := by rw [e1]; exact hHp.moved hal (by rw [← e1]; exact hzz)
    have hLR : LR ad' ls la := o.2.1.mono fun x hx => mv_agree hag (o.2.2.2.2.1 x hx)
    have hlocs : ∀ q ∈ locs ++ L, G.2.1 ≤ q.base := fun q hq => (List.mem_append.mp hq).elim (o.2.2.2.1 q) (hLL q)
    rw [t11, tN] at hown
    have hw : vx_W p l e R s mid args below meth c T'.heap (locs ++ L) (gH m1 - h0) (gS m1 - s0) Q (F0 mid 11 la (rest.map (mv ad))) q := by
      refine vx_catch (own := "LiarsCockLaw") (name := "java/util/NoSuchElementException") hown [] ⟨0, 15, 18, 13⟩ [] (by rw [hXt]; rfl) (fun z hz => by cases hz) (by decide) (by decide) (hts _ tXl.2.2) (va_Nw.use rfl (hK.2.2.2.2.2.2.2.2.2.2.2 ("java/util/NoSuchElementException", "java/util/NoSuchElementException") (by decide))) (by rw [e1]; exact hce) hcv hcl ?_
      have hlh := hLR.has
      rw [o.2.2.1] at hlh
      refine lv_astore hx hb d18 hlh (by rw [t8]; decide) rfl fun la' h' => ?_
      refine lv_iconst hx hb d20 rfl ?_
      have o1 : eO G s eSec m1 ad' (eSet1 ls 7 eU) [.int 1] T'.heap (locs ++ L) la' := by
        refine ⟨hH1, LR.of (by rw [eSet1_len, o.2.2.1]; exact h') fun j w h1 h2 => ?_, by rw [eSet1_len]; exact o.2.2.1, hlocs, eSet1_rv (fun x hx => hmo.rv (o.2.2.2.2.1 x hx)) trivial, fun x hx => by rw [List.mem_singleton.mp hx]; trivial⟩
        rcases eSet1_get h1 h2 with ⟨rfl, rfl⟩ | ⟨z1, z2, z3⟩
        · exact absurd rfl h2
        · refine List.mem_cons_of_mem _ (List.mem_filter.mpr ⟨eAsc_mem.mpr ⟨w, z2, h2, rfl⟩, ?_⟩)
          have : (mv ad' w).category = w.category := mv_cat ad' w
          simp [z1, this]
          omega
      exact kk _ la' ad' T'.heap (locs ++ L) hag o1
    have hw2 : vx_W p l e R s mid args below meth c T'.heap (locs ++ L) (gH m - h0 + mc) (gS m - s0 + ms) Q (F0 mid 11 la (rest.map (mv ad))) q := by
      rw [show gH m - h0 + mc = gH m1 - h0 by have := hmo.1; omega, show gS m - s0 + ms = gS m1 - s0 by have := hmo.2.1; omega]
      exact hw
    obtain ⟨t2, a1, b1⟩ := hw2 T' rfl X'
    exact ⟨t2, stp.trans a1, b1⟩
end CALLX
set_option maxHeartbeats 4000000 in
theorem RS_all (l : Launch) (hl : l.stackTraces = false) (G : eG) : ∀ n, RS l G n
  | 0 => by
    intro d μ pc ls st m o m' h
    cases h
  | n + 1 => by
    have ih := RS_all l hl G n
    intro d μ pc ls st m o m' h p e R s mid args below meth c Z h0 s0 ad H locs la F hX hR hL hh hs hc hsl oo hret hthr
    have hmono := run_mono _ _ _ _ _ _ _ _ _ h
    unfold run at h
    split at h
    · cases h
    rename_i i len hd
    split at h
    case isFalse => cases h
    rename_i hlen
    split at h
    · rename_i v hfin
      cases h
      exact hret v pc i len ls st la ad H locs (fun _ _ => rfl) rfl hd hlen hfin oo
    split at h
    · rename_i hnf y kind hcall
      split at h
      · cases h
      rename_i d2
      split at h
      case isFalse => cases h
      rename_i hok
      obtain ⟨k, hi, hres⟩ := eCall_spec hcall
      have hlen3 : len = 3 := by rcases hi with ⟨rfl, -⟩ | ⟨rfl, -⟩ | ⟨rfl, -⟩ <;> exact eq_of_beq hlen
      subst hlen3
      have hst : st = (st.take (mP y)).reverse.reverse ++ st.drop (mP y) := by rw [List.reverse_reverse, List.take_append_drop]
      have hlenA : (eArg (st.take (mP y)).reverse).length ≤ mL y := by
        unfold eOK at hok
        simp only [Bool.and_eq_true, decide_eq_true_eq] at hok
        exact hok.1.1.2
      have hrv : ∀ v ∈ (st.take (mP y)).reverse, eRv m v := fun v hv => oo.2.2.2.2.2 v (List.mem_of_mem_take (List.mem_reverse.mp hv))
      split at h
      · rename_i v m1 h1
        have hmo1 := run_mono _ _ _ _ _ _ _ _ _ h1
        have hmo2 := run_mono _ _ _ _ _ _ _ _ _ h
        have hnr := run_nr _ _ _ _ _ _ _ _ _ h1
        have hf : gH m - h0 + (gH m1 - gH m) ≤ R.cells ∧ gS m - s0 + (gS m1 - gS m) ≤ R.slots := ⟨by have := hmo1.1; have := hmo2.1; omega, by have := hmo1.2.1; have := hmo2.2.1; omega⟩
        have hgo : ∀ (ad' : Nat → Nat) (H' : Heap) (locs' : List Loc), (∀ a, a < gX m → ad' a = ad a) → eO G s μ m1 ad' ls (v.toList ++ st.drop (mP y)) H' locs' la → eW p l e R s mid args below meth c Z h0 s0 m1 ad' H' locs' la (pc + 3) (v.toList ++ st.drop (mP y)) := fun ad' H' locs' hag o1 =>
          ih (d2 + 1) μ (pc + 3) ls _ m1 o m' h p e R s mid args below meth c Z h0 s0 ad' H' locs' la F hX hR hL (Nat.le_trans hh hmo1.1) (Nat.le_trans hs hmo1.2.1) hc hsl o1
            (fun v' pc' i' len' ls' stf la' ad2 H2 locs2 hag2 => hret v' pc' i' len' ls' stf la' ad2 H2 locs2 fun a ha => (hag2 a (Nat.lt_of_lt_of_le ha hmo1.2.2)).trans (hag a ha))
            (fun m2 pc' k' len' ls' stf la' ad2 H2 locs2 hag2 => hthr m2 pc' k' len' ls' stf la' ad2 H2 locs2 fun a ha => (hag2 a (Nat.lt_of_lt_of_le ha hmo1.2.2)).trans (hag a ha))
        by_cases hy : y = eSec
        · subst hy
          rcases hi with ⟨rfl, rfl⟩ | ⟨rfl, rfl⟩ | ⟨rfl, rfl⟩
          · exfalso
            unfold eOK at hok
            simp only [Bool.and_eq_true] at hok
            have := hok.1.2
            rw [if_neg (by decide)] at this
            have hsz : mS eSec = true := by decide +kernel
            rw [hsz] at this
            simp at this
          · exfalso
            unfold eOK at hok
            simp only [Bool.and_eq_true] at hok
            have := hok.1.2
            rw [if_neg (by decide)] at this
            have hsz : mS eSec = true := by decide +kernel
            rw [hsz] at this
            simp at this
          · have hr1 : mRes (mC μ) k = some eSec := by
              rcases hres with z | z
              · exact z
              · exact absurd (tMn2 _ (eR2_mem z)) (by show ¬ eSec < eNC; decide)
            exact eBack hmo1 rfl rfl hh hs hst hnr oo (eRunSec F hd hr1 hst hok (eMetSec ih h1 hlenA hrv) hR hL oo hf) hgo
        · have hy' : y < eNC := by
            have : y < eNC + 1 := by
              rcases hres with z | z
              · exact tMr2 _ (eR2_mem z)
              · exact Nat.lt_succ_of_lt (tMn2 _ (eR2_mem z))
            unfold eNC at this ⊢
            unfold eSec at hy
            omega
          exact eBack hmo1 rfl rfl hh hs hst hnr oo (eRunCall F hd hi hres hy' hst hok (eMet ih hy' h1 hlenA hrv) hR hL oo hf) hgo
      · rename_i m1 h1
        split at h
        case isFalse => cases h
        rename_i hsec
        cases h
        obtain ⟨rfl, rfl⟩ := hsec
        have hmo1 := run_mono _ _ _ _ _ _ _ _ _ h1
        obtain ⟨d11, d18, d20, d21, dc, -⟩ := dSec
        cases hd.symm.trans d11
        cases hcall.symm.trans dc
        exact eCatch hl F (hX rfl) hmo1 rfl rfl hh hs hst hok (eMetX hl ih h1 hlenA hrv) hR hL oo ⟨by have := hmo1.1; omega, by have := hmo1.2.1; omega⟩ fun ls' la' ad' H' locs' hag o1 =>
          hret (some (.int 1)) 21 .ireturn 1 ls' [.int 1] la' ad' H' locs' hag rfl d21 rfl (by decide +kernel) o1
      · cases h
    · rename_i hnf hnc
      split at h
      · rename_i hthrow
        cases h
        have hk : ∃ k, i = .new k := by
          have := hthrow.1
          unfold eThrow at this
          split at this
          · exact ⟨_, rfl⟩
          · cases this
        obtain ⟨k, rfl⟩ := hk
        have hlen3 : len = 3 := eq_of_beq hlen
        exact hthr m pc k len ls st la ad H locs (fun _ _ => rfl) rfl rfl hd hlen3 hthrow oo hh hs
      · split at h
        · rename_i pc1 ls1 st1 m1 halu
          have hmo1 := alu_mono halu
          have hmo2 := run_mono _ _ _ _ _ _ _ _ _ h
          have := hmo1.1; have := hmo2.1; have := hmo1.2.1; have := hmo2.2.1
          exact alu_snd F hd hlen hR hL hh hs (by omega) (by omega) (by omega) (by omega) halu oo fun ad' H' locs' la' hag o1 =>
            ih d μ pc1 ls1 st1 m1 o m' h p e R s mid args below meth c Z h0 s0 ad' H' locs' la' F hX hR hL (Nat.le_trans hh hmo1.1) (Nat.le_trans hs hmo1.2.1) hc hsl o1
              (fun v' pc' i' len' ls' stf la' ad2 H2 locs2 hag2 => hret v' pc' i' len' ls' stf la' ad2 H2 locs2 fun a ha => (hag2 a (Nat.lt_of_lt_of_le ha hmo1.2.2)).trans (hag a ha))
              (fun m2 pc' k' len' ls' stf la' ad2 H2 locs2 hag2 => hthr m2 pc' k' len' ls' stf la' ad2 H2 locs2 fun a ha => (hag2 a (Nat.lt_of_lt_of_le ha hmo1.2.2)).trans (hag a ha))
        · cases h
