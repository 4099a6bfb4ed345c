/-! ===== what holds before the first call ===== -/
theorem Agr_0 : Agr u0 u0 := ⟨⟨rfl, rfl, rfl, rfl⟩, ⟨rfl, rfl, rfl, rfl, rfl⟩, fun _ _ => ⟨rfl, rfl⟩, fun _ _ => ⟨rfl, rfl⟩, fun _ _ => ⟨rfl, rfl, rfl⟩, fun _ _ => ⟨rfl, rfl, rfl⟩, rfl⟩
theorem u0_1 {a j : Nat} (h : ¬ (a = 7 ∧ j = 0)) : u0.1 a j = 0 := if_neg h
def cMc (a : Nat) : Bool := ([174, 139, 104, 69, 10] : List Nat).contains a
theorem cMc_n {a : Nat} (h : a ≠ 10 ∧ a ≠ 69 ∧ a ≠ 104 ∧ a ≠ 139 ∧ a ≠ 174) : cMc a = false := by
  obtain ⟨h1, h2, h3, h4, h5⟩ := h
  unfold cMc
  simp [h1, h2, h3, h4, h5]
theorem wM_sk : (skT.all fun q => lk wM q.1 q.2.1 == some q.2.2) = true := by decide +kernel
theorem wM_pa : lk wM 10 4 = some 11 ∧ lk wM 10 5 = some 12 ∧ lk wM 10 6 = some 13 ∧ lk wM 10 7 = some 14 ∧ lk wM 10 8 = some 15 ∧ lk wM 10 9 = some 16 ∧ lk wM 10 10 = some 17 ∧ lk wM 10 11 = some 18 ∧ lk wM 10 12 = some 19 ∧ lk wM 10 13 = some 20 ∧ lk wM 10 14 = some 21 := by decide +kernel
theorem wM_st : lk wM 9 0 = some 10 ∧ lk wM 9 1 = some 22 ∧ lk wM 9 2 = some 28 ∧ lk wM 9 3 = some 34 ∧ lk wM 9 4 = some 39 := by decide +kernel
theorem wM_tk : (lk wM 22 0 = some 23 ∧ lk wM 22 1 = some 24 ∧ lk wM 22 2 = some 25 ∧ lk wM 22 3 = some 26 ∧ lk wM 22 4 = some 27) ∧ (lk wM 28 0 = some 29 ∧ lk wM 28 1 = some 30 ∧ lk wM 28 2 = some 31 ∧ lk wM 28 3 = some 32 ∧ lk wM 28 4 = some 33) ∧ (lk wM 34 0 = some 35 ∧ lk wM 34 1 = some 36 ∧ lk wM 34 2 = some 37 ∧ lk wM 34 3 = some 38) ∧ (lk wM 39 0 = some 40 ∧ lk wM 39 1 = some 41 ∧ lk wM 39 2 = some 42 ∧ lk wM 39 3 = some 43) := by decide +kernel
theorem st_pa : stP 10 := by unfold stP; decide +kernel
theorem st_tk : stT 22 ∧ stT 28 := by unfold stT; decide +kernel
theorem st_lk : stK 34 ∧ stK 39 := by unfold stK; decide +kernel
theorem st_9 : kk 9 = (6, 6) := by decide +kernel
theorem first_LI {L : Nat} {xs : Nat → Int32} {m : eM} (hR : ∀ a j, gR m a j = lk wM a j) (hI : ∀ a j, gI m a j = if a = 218 ∧ j = 0 then 1 else if a = 0 ∧ j < L then xs j else 0) (hL : ∀ a j, gL m a j = if a = 219 ∧ j = 0 then 1 else if cMc a = true ∧ j = 15 then 1 else if a = 1 then eFS j else if a = 2 then eTK j else 0) (hX : gX m = 259 ∧ gH m ≤ 256 ∧ gS m ≤ 1000000 ∧ gN m = L) : LI L xs 0 m := by
  have i0 : ∀ a j, a ≠ 0 → ¬ (a = 218 ∧ j = 0) → gI m a j = 0 := fun a j h1 h2 => by rw [hI, if_neg h2, if_neg (fun q => h1 q.1)]
  have l0 : ∀ a j, ¬ (a = 219 ∧ j = 0) → a ≠ 10 ∧ a ≠ 69 ∧ a ≠ 104 ∧ a ≠ 139 ∧ a ≠ 174 → a ≠ 1 → a ≠ 2 → gL m a j = 0 := fun a j h1 h2 h3 h4 => by
    rw [hL, if_neg h1, if_neg (fun q => by rw [cMc_n h2] at q; cases q.1), if_neg h3, if_neg h4]
  have sk : Sk m := fun q hq => (hR _ _).trans (eq_of_beq (List.all_eq_true.mp wM_sk q hq))
  have hva := Agr_0.va Vu_0
  have hvb : Vb u0 := fun j _ => by
    show (if 11 = 7 ∧ j = 0 then 1 else 0) ≤ 1
    rw [if_neg (by omega)]
    decide
  have M : Mp u0 m := by
    refine ⟨sk, fun a j q hq => ?_, fun a j q hq => ?_, fun j hj => ?_⟩
    · have ha := mpI_a hq
      by_cases z : a = 218 ∧ j = 0
      · obtain ⟨rfl, rfl⟩ := z
        cases hq
        rw [hI, if_pos ⟨rfl, rfl⟩]
        rfl
      · rw [i0 a j (by omega) z, u0_1 (fun y => z ?_)]
        · rfl
        · have e := (ivI_e hq).1
          obtain ⟨q1, q2⟩ := q
          obtain ⟨rfl, rfl⟩ : q1 = 7 ∧ q2 = 0 := y
          have e : ((218, 0) : Nat × Nat) = (a, j) := e
          cases e
          exact ⟨rfl, rfl⟩
    · unfold mpL at hq
      split at hq
      · rename_i z
        cases hq
        rw [hL, if_pos z]
        rfl
      · split at hq
        · rename_i z1 z
          cases hq
          rw [l0 a j (by omega) (by omega) (by omega) (by omega)]
          show (0 : Int64) = if 0 = 1 ∧ j = 0 then 1 else 0
          rw [if_neg (by omega)]
        · cases hq
    · rw [l0 211 j (by omega) (by omega) (by omega) (by omega)]
      show (0 : Int64) = lN (if 18 = 7 ∧ j = 0 then 1 else 0)
      rw [if_neg (by omega)]
      rfl
  have ss : Ss m := by
    refine ⟨fun j hj => ?_, fun j hj => ?_⟩
    · rw [hL, if_neg (by omega), if_neg (fun q => by cases q.1), if_pos rfl]
    · rw [hL, if_neg (by omega), if_neg (fun q => by cases q.1), if_neg (by decide), if_pos rfl]
  have pp : Pp u0 10 m := by
    obtain ⟨w4, w5, w6, w7, w8, w9, w10, w11, w12, w13, w14⟩ := wM_pa
    refine ⟨st_pa, ⟨(hR _ _).trans w4, (hR _ _).trans w5, (hR _ _).trans w6, (hR _ _).trans w7, (hR _ _).trans w8, (hR _ _).trans w9, (hR _ _).trans w10, (hR _ _).trans w11, (hR _ _).trans w12, (hR _ _).trans w13, (hR _ _).trans w14⟩, ⟨i0 _ _ (by decide) (by decide), i0 _ _ (by decide) (by decide), i0 _ _ (by decide) (by decide), i0 _ _ (by decide) (by decide)⟩, fun j hj => absurd hj (Nat.not_lt_zero j), fun j hj => absurd hj (Nat.not_lt_zero j), fun j hj => absurd hj (Nat.not_lt_zero j), fun c hc => ⟨?_, ?_⟩, i0 _ _ (by decide) (by decide), ?_⟩
    · rw [i0 _ _ (by decide) (by omega), show lawV u0 c = 0 from u0_1 (by omega)]; rfl
    · rw [i0 _ _ (by decide) (by omega), show lat u0 c = 0 from u0_1 (by omega)]; rfl
    · rw [hL, if_neg (by decide), if_pos ⟨rfl, rfl⟩]
      rfl
  obtain ⟨⟨a0, a1, a2, a3, a4⟩, ⟨b0, b1, b2, b3, b4⟩, ⟨c0, c1, c2, c3⟩, d0, d1, d2, d3⟩ := wM_tk
  obtain ⟨s0, s1, s2, s3, s4⟩ := wM_st
  have r : ∀ {a j b : Nat}, lk wM a j = some b → gR m a j = some b := fun h => (hR _ _).trans h
  have T1 : TkP u0 22 0 (fun i => i) m := ⟨st_tk.1, ⟨r a0, r a1, r a2, r a3, r a4⟩, i0 _ _ (by decide) (by decide), by decide, fun i hi => absurd hi (Nat.not_lt_zero i)⟩
  have T2 : TkP u0 28 0 (fun i => 24 + i) m := ⟨st_tk.2, ⟨r b0, r b1, r b2, r b3, r b4⟩, i0 _ _ (by decide) (by decide), by decide, fun i hi => absurd hi (Nat.not_lt_zero i)⟩
  have K1 : LkP 34 0 (lkC u0) (lkM u0) (lkF u0) (lkT u0) m := ⟨st_lk.1, ⟨r c0, r c1, r c2, r c3⟩, i0 _ _ (by decide) (by decide), by decide, fun i hi => absurd hi (Nat.not_lt_zero i)⟩
  have K2 : LkP 39 0 (wtC u0) (wtM u0) (fun _ => 0) (fun _ => 0) m := ⟨st_lk.2, ⟨r d0, r d1, r d2, r d3⟩, i0 _ _ (by decide) (by decide), by decide, fun i hi => absurd hi (Nat.not_lt_zero i)⟩
  have cn : Cn u0 10 m := ⟨⟨⟨st_9, r s0, r s1, r s2, r s3, r s4⟩, i0 _ _ (by decide) (by decide), pp, T1, T2, K1, K2⟩, ss, sk, Or.inl rfl⟩
  refine ⟨u0, 0, fun _ => 0, fun _ => none, 10, ⟨⟨⟨hva.1, hvb⟩, ⟨Nat.zero_le _, fun i hi => absurd hi (Nat.not_lt_zero i)⟩, fun k w q => (by cases q)⟩, hva.2, fun k w q => (by cases q)⟩, ⟨⟨M, ⟨i0 _ _ (by decide) (by decide), fun i hi => absurd hi (Nat.not_lt_zero i)⟩, fun k hk => ⟨i0 _ _ (by decide) (by omega), fun w q => (by cases q)⟩⟩, ⟨cn, by rw [hX.1]; decide⟩, ⟨i0 _ _ (by decide) (by decide), fun i hi => absurd hi (Nat.not_lt_zero i)⟩, fun k hk => ⟨i0 _ _ (by decide) (by omega), fun w q => (by cases q)⟩⟩, ⟨i0 _ _ (by decide) (by decide), fun a j q => ?_⟩, ⟨fun j hj => ?_, hX.2.2.2⟩, ⟨0, Nat.le_refl _, hX.1⟩, by omega, by omega⟩
  · rw [hX.1] at q
    exact ⟨i0 _ _ (by omega) (by omega), l0 _ _ (by omega) (by omega) (by omega) (by omega)⟩
  · rw [hI, if_neg (by omega), if_pos ⟨rfl, hj⟩]
