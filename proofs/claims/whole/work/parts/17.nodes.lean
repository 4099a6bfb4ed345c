/-! ===== what the printed equations stand on ===== -/
def wU (w : Value) : Value := if w.category = 2 then eU else w
theorem lI_i (F k : Int32 → oX) (h : ∀ x, F x = k x) (v : Int32) : F v = lI v k := h v
theorem lL_i (F k : Int64 → oX) (h : ∀ x, F x = k x) (v : Int64) : F v = lL v k := h v
theorem mI_i {m : eM} {a j : Nat} {v : Int32} (F k : eM → oX) (h : ∀ x, F x = k x) : F (sI m a j v) = mI m a j v k := h _
theorem mJ_i {m : eM} {a j : Nat} {v : Int64} (F k : eM → oX) (h : ∀ x, F x = k x) : F (sL m a j v) = mJ m a j v k := h _
theorem mQ_i {m : eM} {a j : Nat} {v : Option Nat} (F k : eM → oX) (h : ∀ x, F x = k x) : F (sR m a j v) = mQ m a j v k := h _
theorem i_c {c : Prop} {q : Decidable c} {A A' B B' : oX} (h1 : A = A') (h2 : B = B') : @ite _ c q A B = @ite _ c q A' B' := by rw [h1, h2]
theorem z_c {c : Prop} {q : Decidable c} {A B B' : oX} (h2 : B = B') : @ite _ c q A B = @ite _ c q A B' := by rw [h2]
theorem pC_c {x : Int32} {o o' : oX} (h : o = o') : pC x o = pC x o' := by rw [h]
theorem yB0 {m : eM} : yB 0 m = yI 0 m := rfl
theorem yB1 {m : eM} : yB 1 m = yI 1 m := rfl
def yT (m : eM) : oX := some (none, sX m 6)
def tsw : Int32 → List oX → oX → Int32 → oX
  | _, [], D, _ => D
  | k, A :: As, D, x => if x = k then A else tsw (k + 1) As D x
theorem tsw_c {k x : Int32} {A A' D D' : oX} {As As' : List oX} (h : A = A') (h2 : tsw (k + 1) As D x = tsw (k + 1) As' D' x) : tsw k (A :: As) D x = tsw k (A' :: As') D' x := by
  unfold tsw
  rw [h, h2]
theorem tsw_d {k x : Int32} {D D' : oX} (h : D = D') : tsw k [] D x = tsw k [] D' x := h
theorem tsw_spec {D : oX} {x : Int32} : ∀ (As : List oX) (lo : Int), -1000 ≤ lo → lo + As.length ≤ 2000 → tsw (Int32.ofInt lo) As D x = if lo ≤ x.toInt ∧ x.toInt < lo + As.length then As.getD (x.toInt - lo).toNat D else D
  | [], lo, _, _ => by
    unfold tsw
    rw [if_neg (by simp only [List.length_nil]; omega)]
  | A :: As, lo, h1, h2 => by
    simp only [List.length_cons] at h2
    have e : (Int32.ofInt lo).toInt = lo := by
      rw [Int32.toInt_ofInt_of_le (by omega) (by omega)]
    have e2 : Int32.ofInt lo + 1 = Int32.ofInt (lo + 1) := by
      rw [Int32.ofInt_add]; rfl
    unfold tsw
    by_cases h : x = Int32.ofInt lo
    · rw [if_pos h]
      have hx : x.toInt = lo := by rw [h, e]
      rw [if_pos (by simp only [List.length_cons]; omega), hx]
      simp
    · rw [if_neg h, e2, tsw_spec As (lo + 1) (by omega) (by omega)]
      have hx : x.toInt ≠ lo := fun z => h (Int32.toInt_inj.mp (by rw [z, e]))
      simp only [List.length_cons]
      by_cases h3 : lo + 1 ≤ x.toInt ∧ x.toInt < lo + 1 + As.length
      · rw [if_pos h3, if_pos (by omega)]
        have : (x.toInt - lo).toNat = (x.toInt - (lo + 1)).toNat + 1 := by omega
        rw [this]
        rfl
      · rw [if_neg h3, if_neg (by omega)]
def tbk (pc : Nat) (dflt lo hi : Int) (offs : Array Int) (D : Nat) (Ts : List Nat) : Bool :=
  decide (0 ≤ (pc : Int) + dflt) && decide (eT pc dflt = D) && decide (offs.size = Ts.length) && decide (hi + 1 = lo + Ts.length) && decide (-1000 ≤ lo) && decide (lo + Ts.length ≤ 2000) && (List.range Ts.length).all fun k => decide (0 ≤ (pc : Int) + offs.getD k (-100000)) && decide (eT pc (offs.getD k 0) = Ts.getD k 0)
def TB (μ pc D : Nat) (lo hi : Int) (Ts : List Nat) : Prop := ∃ offs dflt len, decode (mB μ) pc = .ok (.tableswitch dflt lo hi offs, len) ∧ tbk pc dflt lo hi offs D Ts = true
theorem x_tab {d μ pc D : Nat} {ls st : List Value} {m : eM} {lo hi : Int} {Ts : List Nat} {k x : Int32} (S : TB μ pc D lo hi Ts) (hk : Int32.ofInt lo = k) : X d μ pc ls (.int x :: st) m = tsw k (Ts.map fun t => X d μ t ls st m) (X d μ D ls st m) x := by
  obtain ⟨offs, dflt, len, hd, ht⟩ := S
  unfold tbk at ht
  simp only [Bool.and_eq_true, decide_eq_true_eq, List.all_eq_true, List.mem_range] at ht
  obtain ⟨⟨⟨⟨⟨⟨t1, t2⟩, t3⟩, t4⟩, t5⟩, t6⟩, t7⟩ := ht
  rw [← hk, tsw_spec _ lo t5 (by rw [List.length_map]; exact t6), List.length_map]
  have e0 : alu (mC μ) (mIni μ) d (.tableswitch dflt lo hi offs) pc ls (.int x :: st) m = if x.toInt < lo ∨ hi < x.toInt then eJmp pc dflt ls st m else (match offs[(x.toInt - lo).toNat]? with
    | some off => eJmp pc off ls st m
    | none => none) := rfl
  rw [x_s hd rfl rfl, e0]
  by_cases h : x.toInt < lo ∨ hi < x.toInt
  · rw [if_pos h, if_neg (by omega)]
    unfold eJmp
    rw [if_pos t1, t2]
    rfl
  · rw [if_neg h, if_pos (by omega)]
    have hlt : (x.toInt - lo).toNat < Ts.length := by omega
    have hlt2 : (x.toInt - lo).toNat < offs.size := by omega
    obtain ⟨q1, q2⟩ := t7 _ hlt
    rw [Array.getElem?_eq_getElem hlt2]
    have e1 : ∀ z, offs.getD (x.toInt - lo).toNat z = offs[(x.toInt - lo).toNat] := fun z => by
      rw [Array.getD_eq_getD_getElem?, Array.getElem?_eq_getElem hlt2]; rfl
    rw [e1] at q1 q2
    have e2 : (Ts.map fun t => X d μ t ls st m).getD (x.toInt - lo).toNat (X d μ D ls st m) = X d μ (Ts.getD (x.toInt - lo).toNat 0) ls st m := by
      rw [List.getD_eq_getElem?_getD, List.getElem?_map, List.getD_eq_getElem?_getD, List.getElem?_eq_getElem hlt]; rfl
    rw [e2, ← q2]
    unfold eJmp
    simp only [if_pos q1]
    rfl
theorem x_thr {d μ pc : Nat} {ls st : List Value} {m : eM} (S : ∃ k, decode (mB μ) pc = .ok (.new k, 3) ∧ eThrow μ pc (.new k) = true) (hc : Nat.ble (eCat st) 8 = true) : X (d + 10) μ pc ls st m = yT m := by
  obtain ⟨k, hd, ht⟩ := S
  rw [X_stp]
  unfold stp
  rw [hd]
  have e1 : eFin (mR μ) (.new k) st = none := rfl
  have e2 : eCall (mC μ) (.new k) = none := rfl
  simp only [if_pos (show lenOK (.new k) 3 = true from rfl), e1, e2]
  exact if_pos ⟨ht, Nat.le_of_ble_eq_true hc, by omega⟩
