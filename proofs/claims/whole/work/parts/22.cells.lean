/-! ===== the fixed cells (printed by wip/whole/gen22.py): kinds, lengths, guards, references ===== -/
theorem toI (n : Nat) : n.toInt32 = nI n := rfl
theorem kk_l {a K L : Nat} (h : kk a = (K, L)) : kd a = K ∧ kl a = L := ⟨congrArg Prod.fst h, congrArg Prod.snd h⟩
theorem gl_t {a : Nat} {o : oX} (h : 20 ≤ kd a) (h2 : kd a ≤ 24) : gl a o = o := if_pos ⟨h, h2⟩
theorem ga_t {m : eM} {a k n : Nat} {o : oX} (hk : kd a = k) (h0 : 0 < a) (h : n < kl a) (h2 : kl a ≤ 100000) : ga m a k (nI n) o = o := ga_n hk (by rw [aln_k (by omega)]; exact h) (by omega)
theorem gw_t {m : eM} {a k n : Nat} {o : oX} (hk : kd a = k) (h3 : 3 ≤ a) (h : n < kl a) (h2 : kl a ≤ 100000) : gw m a k (nI n) o = o := gw_n hk h3 (by rw [aln_k (by omega)]; exact h) (by omega)
theorem al_t {m : eM} {a : Nat} (h0 : 0 < a) : aln m a = kl a := aln_k (by omega)
theorem gd_y {a c : Nat} {o : oX} (h : kd a = c) : gd a c o = o := if_pos h
theorem mI_u (m : eM) (a j : Nat) (v : Int32) (k : eM → oX) : mI m a j v k = k (sI m a j v) := rfl
theorem mJ_u (m : eM) (a j : Nat) (v : Int64) (k : eM → oX) : mJ m a j v k = k (sL m a j v) := rfl
theorem lI_u (v : Int32) (k : Int32 → oX) : lI v k = k v := rfl
theorem lL_u (v : Int64) (k : Int64 → oX) : lL v k = k v := rfl
theorem kk_1 : kk 1 = (21, 6) := by decide +kernel
theorem gl_1 {o : oX} : gl 1 o = o := if_pos ⟨by rw [(kk_l kk_1).1]; decide, by rw [(kk_l kk_1).1]; decide⟩
theorem ga_1 {m : eM} {n : Nat} {o : oX} (h : n < 6) : ga m 1 21 (nI n) o = o := ga_t (kk_l kk_1).1 (by decide) (by rw [(kk_l kk_1).2]; exact h) (by rw [(kk_l kk_1).2]; decide)
theorem al_1 {m : eM} : aln m 1 = 6 := (al_t (by decide)).trans (kk_l kk_1).2
theorem kk_2 : kk 2 = (21, 14) := by decide +kernel
theorem gl_2 {o : oX} : gl 2 o = o := if_pos ⟨by rw [(kk_l kk_2).1]; decide, by rw [(kk_l kk_2).1]; decide⟩
theorem ga_2 {m : eM} {n : Nat} {o : oX} (h : n < 14) : ga m 2 21 (nI n) o = o := ga_t (kk_l kk_2).1 (by decide) (by rw [(kk_l kk_2).2]; exact h) (by rw [(kk_l kk_2).2]; decide)
theorem al_2 {m : eM} : aln m 2 = 14 := (al_t (by decide)).trans (kk_l kk_2).2
theorem kk_5 : kk 5 = (22, 1000) := by decide +kernel
theorem gl_5 {o : oX} : gl 5 o = o := if_pos ⟨by rw [(kk_l kk_5).1]; decide, by rw [(kk_l kk_5).1]; decide⟩
theorem ga_5 {m : eM} {n : Nat} {o : oX} (h : n < 1000) : ga m 5 22 (nI n) o = o := ga_t (kk_l kk_5).1 (by decide) (by rw [(kk_l kk_5).2]; exact h) (by rw [(kk_l kk_5).2]; decide)
theorem gw_5 {m : eM} {n : Nat} {o : oX} (h : n < 1000) : gw m 5 22 (nI n) o = o := gw_t (kk_l kk_5).1 (by decide) (by rw [(kk_l kk_5).2]; exact h) (by rw [(kk_l kk_5).2]; decide)
theorem al_5 {m : eM} : aln m 5 = 1000 := (al_t (by decide)).trans (kk_l kk_5).2
theorem kk_7 : kk 7 = (20, 1000) := by decide +kernel
theorem gl_7 {o : oX} : gl 7 o = o := if_pos ⟨by rw [(kk_l kk_7).1]; decide, by rw [(kk_l kk_7).1]; decide⟩
theorem ga_7 {m : eM} {n : Nat} {o : oX} (h : n < 1000) : ga m 7 20 (nI n) o = o := ga_t (kk_l kk_7).1 (by decide) (by rw [(kk_l kk_7).2]; exact h) (by rw [(kk_l kk_7).2]; decide)
theorem gw_7 {m : eM} {n : Nat} {o : oX} (h : n < 1000) : gw m 7 20 (nI n) o = o := gw_t (kk_l kk_7).1 (by decide) (by rw [(kk_l kk_7).2]; exact h) (by rw [(kk_l kk_7).2]; decide)
theorem al_7 {m : eM} : aln m 7 = 1000 := (al_t (by decide)).trans (kk_l kk_7).2
theorem kk_8 : kk 8 = (20, 64) := by decide +kernel
theorem gl_8 {o : oX} : gl 8 o = o := if_pos ⟨by rw [(kk_l kk_8).1]; decide, by rw [(kk_l kk_8).1]; decide⟩
theorem ga_8 {m : eM} {n : Nat} {o : oX} (h : n < 64) : ga m 8 20 (nI n) o = o := ga_t (kk_l kk_8).1 (by decide) (by rw [(kk_l kk_8).2]; exact h) (by rw [(kk_l kk_8).2]; decide)
theorem gw_8 {m : eM} {n : Nat} {o : oX} (h : n < 64) : gw m 8 20 (nI n) o = o := gw_t (kk_l kk_8).1 (by decide) (by rw [(kk_l kk_8).2]; exact h) (by rw [(kk_l kk_8).2]; decide)
theorem al_8 {m : eM} : aln m 8 = 64 := (al_t (by decide)).trans (kk_l kk_8).2
theorem kk_11 : kk 11 = (21, 6) := by decide +kernel
theorem gl_11 {o : oX} : gl 11 o = o := if_pos ⟨by rw [(kk_l kk_11).1]; decide, by rw [(kk_l kk_11).1]; decide⟩
theorem ga_11 {m : eM} {n : Nat} {o : oX} (h : n < 6) : ga m 11 21 (nI n) o = o := ga_t (kk_l kk_11).1 (by decide) (by rw [(kk_l kk_11).2]; exact h) (by rw [(kk_l kk_11).2]; decide)
theorem gw_11 {m : eM} {n : Nat} {o : oX} (h : n < 6) : gw m 11 21 (nI n) o = o := gw_t (kk_l kk_11).1 (by decide) (by rw [(kk_l kk_11).2]; exact h) (by rw [(kk_l kk_11).2]; decide)
theorem al_11 {m : eM} : aln m 11 = 6 := (al_t (by decide)).trans (kk_l kk_11).2
theorem kk_12 : kk 12 = (20, 6) := by decide +kernel
theorem gl_12 {o : oX} : gl 12 o = o := if_pos ⟨by rw [(kk_l kk_12).1]; decide, by rw [(kk_l kk_12).1]; decide⟩
theorem ga_12 {m : eM} {n : Nat} {o : oX} (h : n < 6) : ga m 12 20 (nI n) o = o := ga_t (kk_l kk_12).1 (by decide) (by rw [(kk_l kk_12).2]; exact h) (by rw [(kk_l kk_12).2]; decide)
theorem gw_12 {m : eM} {n : Nat} {o : oX} (h : n < 6) : gw m 12 20 (nI n) o = o := gw_t (kk_l kk_12).1 (by decide) (by rw [(kk_l kk_12).2]; exact h) (by rw [(kk_l kk_12).2]; decide)
theorem al_12 {m : eM} : aln m 12 = 6 := (al_t (by decide)).trans (kk_l kk_12).2
theorem kk_13 : kk 13 = (21, 6) := by decide +kernel
theorem gl_13 {o : oX} : gl 13 o = o := if_pos ⟨by rw [(kk_l kk_13).1]; decide, by rw [(kk_l kk_13).1]; decide⟩
theorem ga_13 {m : eM} {n : Nat} {o : oX} (h : n < 6) : ga m 13 21 (nI n) o = o := ga_t (kk_l kk_13).1 (by decide) (by rw [(kk_l kk_13).2]; exact h) (by rw [(kk_l kk_13).2]; decide)
theorem gw_13 {m : eM} {n : Nat} {o : oX} (h : n < 6) : gw m 13 21 (nI n) o = o := gw_t (kk_l kk_13).1 (by decide) (by rw [(kk_l kk_13).2]; exact h) (by rw [(kk_l kk_13).2]; decide)
theorem al_13 {m : eM} : aln m 13 = 6 := (al_t (by decide)).trans (kk_l kk_13).2
theorem kk_14 : kk 14 = (20, 6) := by decide +kernel
theorem gl_14 {o : oX} : gl 14 o = o := if_pos ⟨by rw [(kk_l kk_14).1]; decide, by rw [(kk_l kk_14).1]; decide⟩
theorem ga_14 {m : eM} {n : Nat} {o : oX} (h : n < 6) : ga m 14 20 (nI n) o = o := ga_t (kk_l kk_14).1 (by decide) (by rw [(kk_l kk_14).2]; exact h) (by rw [(kk_l kk_14).2]; decide)
theorem gw_14 {m : eM} {n : Nat} {o : oX} (h : n < 6) : gw m 14 20 (nI n) o = o := gw_t (kk_l kk_14).1 (by decide) (by rw [(kk_l kk_14).2]; exact h) (by rw [(kk_l kk_14).2]; decide)
theorem al_14 {m : eM} : aln m 14 = 6 := (al_t (by decide)).trans (kk_l kk_14).2
theorem kk_15 : kk 15 = (21, 6) := by decide +kernel
theorem gl_15 {o : oX} : gl 15 o = o := if_pos ⟨by rw [(kk_l kk_15).1]; decide, by rw [(kk_l kk_15).1]; decide⟩
theorem ga_15 {m : eM} {n : Nat} {o : oX} (h : n < 6) : ga m 15 21 (nI n) o = o := ga_t (kk_l kk_15).1 (by decide) (by rw [(kk_l kk_15).2]; exact h) (by rw [(kk_l kk_15).2]; decide)
theorem gw_15 {m : eM} {n : Nat} {o : oX} (h : n < 6) : gw m 15 21 (nI n) o = o := gw_t (kk_l kk_15).1 (by decide) (by rw [(kk_l kk_15).2]; exact h) (by rw [(kk_l kk_15).2]; decide)
theorem al_15 {m : eM} : aln m 15 = 6 := (al_t (by decide)).trans (kk_l kk_15).2
theorem kk_16 : kk 16 = (20, 6) := by decide +kernel
theorem gl_16 {o : oX} : gl 16 o = o := if_pos ⟨by rw [(kk_l kk_16).1]; decide, by rw [(kk_l kk_16).1]; decide⟩
theorem ga_16 {m : eM} {n : Nat} {o : oX} (h : n < 6) : ga m 16 20 (nI n) o = o := ga_t (kk_l kk_16).1 (by decide) (by rw [(kk_l kk_16).2]; exact h) (by rw [(kk_l kk_16).2]; decide)
theorem gw_16 {m : eM} {n : Nat} {o : oX} (h : n < 6) : gw m 16 20 (nI n) o = o := gw_t (kk_l kk_16).1 (by decide) (by rw [(kk_l kk_16).2]; exact h) (by rw [(kk_l kk_16).2]; decide)
theorem al_16 {m : eM} : aln m 16 = 6 := (al_t (by decide)).trans (kk_l kk_16).2
theorem kk_17 : kk 17 = (20, 6) := by decide +kernel
theorem gl_17 {o : oX} : gl 17 o = o := if_pos ⟨by rw [(kk_l kk_17).1]; decide, by rw [(kk_l kk_17).1]; decide⟩
theorem ga_17 {m : eM} {n : Nat} {o : oX} (h : n < 6) : ga m 17 20 (nI n) o = o := ga_t (kk_l kk_17).1 (by decide) (by rw [(kk_l kk_17).2]; exact h) (by rw [(kk_l kk_17).2]; decide)
theorem gw_17 {m : eM} {n : Nat} {o : oX} (h : n < 6) : gw m 17 20 (nI n) o = o := gw_t (kk_l kk_17).1 (by decide) (by rw [(kk_l kk_17).2]; exact h) (by rw [(kk_l kk_17).2]; decide)
theorem al_17 {m : eM} : aln m 17 = 6 := (al_t (by decide)).trans (kk_l kk_17).2
theorem kk_18 : kk 18 = (20, 6) := by decide +kernel
theorem gl_18 {o : oX} : gl 18 o = o := if_pos ⟨by rw [(kk_l kk_18).1]; decide, by rw [(kk_l kk_18).1]; decide⟩
theorem ga_18 {m : eM} {n : Nat} {o : oX} (h : n < 6) : ga m 18 20 (nI n) o = o := ga_t (kk_l kk_18).1 (by decide) (by rw [(kk_l kk_18).2]; exact h) (by rw [(kk_l kk_18).2]; decide)
theorem gw_18 {m : eM} {n : Nat} {o : oX} (h : n < 6) : gw m 18 20 (nI n) o = o := gw_t (kk_l kk_18).1 (by decide) (by rw [(kk_l kk_18).2]; exact h) (by rw [(kk_l kk_18).2]; decide)
theorem al_18 {m : eM} : aln m 18 = 6 := (al_t (by decide)).trans (kk_l kk_18).2
theorem kk_19 : kk 19 = (23, 2) := by decide +kernel
theorem gl_19 {o : oX} : gl 19 o = o := if_pos ⟨by rw [(kk_l kk_19).1]; decide, by rw [(kk_l kk_19).1]; decide⟩
theorem ga_19 {m : eM} {n : Nat} {o : oX} (h : n < 2) : ga m 19 23 (nI n) o = o := ga_t (kk_l kk_19).1 (by decide) (by rw [(kk_l kk_19).2]; exact h) (by rw [(kk_l kk_19).2]; decide)
theorem gw_19 {m : eM} {n : Nat} {o : oX} (h : n < 2) : gw m 19 23 (nI n) o = o := gw_t (kk_l kk_19).1 (by decide) (by rw [(kk_l kk_19).2]; exact h) (by rw [(kk_l kk_19).2]; decide)
theorem al_19 {m : eM} : aln m 19 = 2 := (al_t (by decide)).trans (kk_l kk_19).2
theorem kk_20 : kk 20 = (20, 2) := by decide +kernel
theorem gl_20 {o : oX} : gl 20 o = o := if_pos ⟨by rw [(kk_l kk_20).1]; decide, by rw [(kk_l kk_20).1]; decide⟩
theorem ga_20 {m : eM} {n : Nat} {o : oX} (h : n < 2) : ga m 20 20 (nI n) o = o := ga_t (kk_l kk_20).1 (by decide) (by rw [(kk_l kk_20).2]; exact h) (by rw [(kk_l kk_20).2]; decide)
theorem gw_20 {m : eM} {n : Nat} {o : oX} (h : n < 2) : gw m 20 20 (nI n) o = o := gw_t (kk_l kk_20).1 (by decide) (by rw [(kk_l kk_20).2]; exact h) (by rw [(kk_l kk_20).2]; decide)
theorem al_20 {m : eM} : aln m 20 = 2 := (al_t (by decide)).trans (kk_l kk_20).2
theorem kk_21 : kk 21 = (20, 2) := by decide +kernel
theorem gl_21 {o : oX} : gl 21 o = o := if_pos ⟨by rw [(kk_l kk_21).1]; decide, by rw [(kk_l kk_21).1]; decide⟩
theorem ga_21 {m : eM} {n : Nat} {o : oX} (h : n < 2) : ga m 21 20 (nI n) o = o := ga_t (kk_l kk_21).1 (by decide) (by rw [(kk_l kk_21).2]; exact h) (by rw [(kk_l kk_21).2]; decide)
theorem gw_21 {m : eM} {n : Nat} {o : oX} (h : n < 2) : gw m 21 20 (nI n) o = o := gw_t (kk_l kk_21).1 (by decide) (by rw [(kk_l kk_21).2]; exact h) (by rw [(kk_l kk_21).2]; decide)
theorem al_21 {m : eM} : aln m 21 = 2 := (al_t (by decide)).trans (kk_l kk_21).2
theorem kk_23 : kk 23 = (20, 31) := by decide +kernel
theorem gl_23 {o : oX} : gl 23 o = o := if_pos ⟨by rw [(kk_l kk_23).1]; decide, by rw [(kk_l kk_23).1]; decide⟩
theorem ga_23 {m : eM} {n : Nat} {o : oX} (h : n < 31) : ga m 23 20 (nI n) o = o := ga_t (kk_l kk_23).1 (by decide) (by rw [(kk_l kk_23).2]; exact h) (by rw [(kk_l kk_23).2]; decide)
theorem gw_23 {m : eM} {n : Nat} {o : oX} (h : n < 31) : gw m 23 20 (nI n) o = o := gw_t (kk_l kk_23).1 (by decide) (by rw [(kk_l kk_23).2]; exact h) (by rw [(kk_l kk_23).2]; decide)
theorem al_23 {m : eM} : aln m 23 = 31 := (al_t (by decide)).trans (kk_l kk_23).2
theorem kk_24 : kk 24 = (20, 31) := by decide +kernel
theorem gl_24 {o : oX} : gl 24 o = o := if_pos ⟨by rw [(kk_l kk_24).1]; decide, by rw [(kk_l kk_24).1]; decide⟩
theorem ga_24 {m : eM} {n : Nat} {o : oX} (h : n < 31) : ga m 24 20 (nI n) o = o := ga_t (kk_l kk_24).1 (by decide) (by rw [(kk_l kk_24).2]; exact h) (by rw [(kk_l kk_24).2]; decide)
theorem gw_24 {m : eM} {n : Nat} {o : oX} (h : n < 31) : gw m 24 20 (nI n) o = o := gw_t (kk_l kk_24).1 (by decide) (by rw [(kk_l kk_24).2]; exact h) (by rw [(kk_l kk_24).2]; decide)
theorem al_24 {m : eM} : aln m 24 = 31 := (al_t (by decide)).trans (kk_l kk_24).2
theorem kk_25 : kk 25 = (21, 31) := by decide +kernel
theorem gl_25 {o : oX} : gl 25 o = o := if_pos ⟨by rw [(kk_l kk_25).1]; decide, by rw [(kk_l kk_25).1]; decide⟩
theorem ga_25 {m : eM} {n : Nat} {o : oX} (h : n < 31) : ga m 25 21 (nI n) o = o := ga_t (kk_l kk_25).1 (by decide) (by rw [(kk_l kk_25).2]; exact h) (by rw [(kk_l kk_25).2]; decide)
theorem gw_25 {m : eM} {n : Nat} {o : oX} (h : n < 31) : gw m 25 21 (nI n) o = o := gw_t (kk_l kk_25).1 (by decide) (by rw [(kk_l kk_25).2]; exact h) (by rw [(kk_l kk_25).2]; decide)
theorem al_25 {m : eM} : aln m 25 = 31 := (al_t (by decide)).trans (kk_l kk_25).2
theorem kk_26 : kk 26 = (21, 31) := by decide +kernel
theorem gl_26 {o : oX} : gl 26 o = o := if_pos ⟨by rw [(kk_l kk_26).1]; decide, by rw [(kk_l kk_26).1]; decide⟩
theorem ga_26 {m : eM} {n : Nat} {o : oX} (h : n < 31) : ga m 26 21 (nI n) o = o := ga_t (kk_l kk_26).1 (by decide) (by rw [(kk_l kk_26).2]; exact h) (by rw [(kk_l kk_26).2]; decide)
theorem gw_26 {m : eM} {n : Nat} {o : oX} (h : n < 31) : gw m 26 21 (nI n) o = o := gw_t (kk_l kk_26).1 (by decide) (by rw [(kk_l kk_26).2]; exact h) (by rw [(kk_l kk_26).2]; decide)
theorem al_26 {m : eM} : aln m 26 = 31 := (al_t (by decide)).trans (kk_l kk_26).2
theorem kk_27 : kk 27 = (21, 31) := by decide +kernel
theorem gl_27 {o : oX} : gl 27 o = o := if_pos ⟨by rw [(kk_l kk_27).1]; decide, by rw [(kk_l kk_27).1]; decide⟩
theorem ga_27 {m : eM} {n : Nat} {o : oX} (h : n < 31) : ga m 27 21 (nI n) o = o := ga_t (kk_l kk_27).1 (by decide) (by rw [(kk_l kk_27).2]; exact h) (by rw [(kk_l kk_27).2]; decide)
theorem gw_27 {m : eM} {n : Nat} {o : oX} (h : n < 31) : gw m 27 21 (nI n) o = o := gw_t (kk_l kk_27).1 (by decide) (by rw [(kk_l kk_27).2]; exact h) (by rw [(kk_l kk_27).2]; decide)
theorem al_27 {m : eM} : aln m 27 = 31 := (al_t (by decide)).trans (kk_l kk_27).2
theorem kk_29 : kk 29 = (20, 31) := by decide +kernel
theorem gl_29 {o : oX} : gl 29 o = o := if_pos ⟨by rw [(kk_l kk_29).1]; decide, by rw [(kk_l kk_29).1]; decide⟩
theorem ga_29 {m : eM} {n : Nat} {o : oX} (h : n < 31) : ga m 29 20 (nI n) o = o := ga_t (kk_l kk_29).1 (by decide) (by rw [(kk_l kk_29).2]; exact h) (by rw [(kk_l kk_29).2]; decide)
theorem gw_29 {m : eM} {n : Nat} {o : oX} (h : n < 31) : gw m 29 20 (nI n) o = o := gw_t (kk_l kk_29).1 (by decide) (by rw [(kk_l kk_29).2]; exact h) (by rw [(kk_l kk_29).2]; decide)
theorem al_29 {m : eM} : aln m 29 = 31 := (al_t (by decide)).trans (kk_l kk_29).2
theorem kk_30 : kk 30 = (20, 31) := by decide +kernel
theorem gl_30 {o : oX} : gl 30 o = o := if_pos ⟨by rw [(kk_l kk_30).1]; decide, by rw [(kk_l kk_30).1]; decide⟩
theorem ga_30 {m : eM} {n : Nat} {o : oX} (h : n < 31) : ga m 30 20 (nI n) o = o := ga_t (kk_l kk_30).1 (by decide) (by rw [(kk_l kk_30).2]; exact h) (by rw [(kk_l kk_30).2]; decide)
theorem gw_30 {m : eM} {n : Nat} {o : oX} (h : n < 31) : gw m 30 20 (nI n) o = o := gw_t (kk_l kk_30).1 (by decide) (by rw [(kk_l kk_30).2]; exact h) (by rw [(kk_l kk_30).2]; decide)
theorem al_30 {m : eM} : aln m 30 = 31 := (al_t (by decide)).trans (kk_l kk_30).2
theorem kk_31 : kk 31 = (21, 31) := by decide +kernel
theorem gl_31 {o : oX} : gl 31 o = o := if_pos ⟨by rw [(kk_l kk_31).1]; decide, by rw [(kk_l kk_31).1]; decide⟩
theorem ga_31 {m : eM} {n : Nat} {o : oX} (h : n < 31) : ga m 31 21 (nI n) o = o := ga_t (kk_l kk_31).1 (by decide) (by rw [(kk_l kk_31).2]; exact h) (by rw [(kk_l kk_31).2]; decide)
theorem gw_31 {m : eM} {n : Nat} {o : oX} (h : n < 31) : gw m 31 21 (nI n) o = o := gw_t (kk_l kk_31).1 (by decide) (by rw [(kk_l kk_31).2]; exact h) (by rw [(kk_l kk_31).2]; decide)
theorem al_31 {m : eM} : aln m 31 = 31 := (al_t (by decide)).trans (kk_l kk_31).2
theorem kk_32 : kk 32 = (21, 31) := by decide +kernel
theorem gl_32 {o : oX} : gl 32 o = o := if_pos ⟨by rw [(kk_l kk_32).1]; decide, by rw [(kk_l kk_32).1]; decide⟩
theorem ga_32 {m : eM} {n : Nat} {o : oX} (h : n < 31) : ga m 32 21 (nI n) o = o := ga_t (kk_l kk_32).1 (by decide) (by rw [(kk_l kk_32).2]; exact h) (by rw [(kk_l kk_32).2]; decide)
theorem gw_32 {m : eM} {n : Nat} {o : oX} (h : n < 31) : gw m 32 21 (nI n) o = o := gw_t (kk_l kk_32).1 (by decide) (by rw [(kk_l kk_32).2]; exact h) (by rw [(kk_l kk_32).2]; decide)
theorem al_32 {m : eM} : aln m 32 = 31 := (al_t (by decide)).trans (kk_l kk_32).2
theorem kk_33 : kk 33 = (21, 31) := by decide +kernel
theorem gl_33 {o : oX} : gl 33 o = o := if_pos ⟨by rw [(kk_l kk_33).1]; decide, by rw [(kk_l kk_33).1]; decide⟩
theorem ga_33 {m : eM} {n : Nat} {o : oX} (h : n < 31) : ga m 33 21 (nI n) o = o := ga_t (kk_l kk_33).1 (by decide) (by rw [(kk_l kk_33).2]; exact h) (by rw [(kk_l kk_33).2]; decide)
theorem gw_33 {m : eM} {n : Nat} {o : oX} (h : n < 31) : gw m 33 21 (nI n) o = o := gw_t (kk_l kk_33).1 (by decide) (by rw [(kk_l kk_33).2]; exact h) (by rw [(kk_l kk_33).2]; decide)
theorem al_33 {m : eM} : aln m 33 = 31 := (al_t (by decide)).trans (kk_l kk_33).2
theorem kk_35 : kk 35 = (20, 12) := by decide +kernel
theorem gl_35 {o : oX} : gl 35 o = o := if_pos ⟨by rw [(kk_l kk_35).1]; decide, by rw [(kk_l kk_35).1]; decide⟩
theorem ga_35 {m : eM} {n : Nat} {o : oX} (h : n < 12) : ga m 35 20 (nI n) o = o := ga_t (kk_l kk_35).1 (by decide) (by rw [(kk_l kk_35).2]; exact h) (by rw [(kk_l kk_35).2]; decide)
theorem gw_35 {m : eM} {n : Nat} {o : oX} (h : n < 12) : gw m 35 20 (nI n) o = o := gw_t (kk_l kk_35).1 (by decide) (by rw [(kk_l kk_35).2]; exact h) (by rw [(kk_l kk_35).2]; decide)
theorem al_35 {m : eM} : aln m 35 = 12 := (al_t (by decide)).trans (kk_l kk_35).2
theorem kk_36 : kk 36 = (20, 12) := by decide +kernel
theorem gl_36 {o : oX} : gl 36 o = o := if_pos ⟨by rw [(kk_l kk_36).1]; decide, by rw [(kk_l kk_36).1]; decide⟩
theorem ga_36 {m : eM} {n : Nat} {o : oX} (h : n < 12) : ga m 36 20 (nI n) o = o := ga_t (kk_l kk_36).1 (by decide) (by rw [(kk_l kk_36).2]; exact h) (by rw [(kk_l kk_36).2]; decide)
theorem gw_36 {m : eM} {n : Nat} {o : oX} (h : n < 12) : gw m 36 20 (nI n) o = o := gw_t (kk_l kk_36).1 (by decide) (by rw [(kk_l kk_36).2]; exact h) (by rw [(kk_l kk_36).2]; decide)
theorem al_36 {m : eM} : aln m 36 = 12 := (al_t (by decide)).trans (kk_l kk_36).2
theorem kk_37 : kk 37 = (20, 12) := by decide +kernel
theorem gl_37 {o : oX} : gl 37 o = o := if_pos ⟨by rw [(kk_l kk_37).1]; decide, by rw [(kk_l kk_37).1]; decide⟩
theorem ga_37 {m : eM} {n : Nat} {o : oX} (h : n < 12) : ga m 37 20 (nI n) o = o := ga_t (kk_l kk_37).1 (by decide) (by rw [(kk_l kk_37).2]; exact h) (by rw [(kk_l kk_37).2]; decide)
theorem gw_37 {m : eM} {n : Nat} {o : oX} (h : n < 12) : gw m 37 20 (nI n) o = o := gw_t (kk_l kk_37).1 (by decide) (by rw [(kk_l kk_37).2]; exact h) (by rw [(kk_l kk_37).2]; decide)
theorem al_37 {m : eM} : aln m 37 = 12 := (al_t (by decide)).trans (kk_l kk_37).2
theorem kk_38 : kk 38 = (20, 12) := by decide +kernel
theorem gl_38 {o : oX} : gl 38 o = o := if_pos ⟨by rw [(kk_l kk_38).1]; decide, by rw [(kk_l kk_38).1]; decide⟩
theorem ga_38 {m : eM} {n : Nat} {o : oX} (h : n < 12) : ga m 38 20 (nI n) o = o := ga_t (kk_l kk_38).1 (by decide) (by rw [(kk_l kk_38).2]; exact h) (by rw [(kk_l kk_38).2]; decide)
theorem gw_38 {m : eM} {n : Nat} {o : oX} (h : n < 12) : gw m 38 20 (nI n) o = o := gw_t (kk_l kk_38).1 (by decide) (by rw [(kk_l kk_38).2]; exact h) (by rw [(kk_l kk_38).2]; decide)
theorem al_38 {m : eM} : aln m 38 = 12 := (al_t (by decide)).trans (kk_l kk_38).2
theorem kk_40 : kk 40 = (20, 12) := by decide +kernel
theorem gl_40 {o : oX} : gl 40 o = o := if_pos ⟨by rw [(kk_l kk_40).1]; decide, by rw [(kk_l kk_40).1]; decide⟩
theorem ga_40 {m : eM} {n : Nat} {o : oX} (h : n < 12) : ga m 40 20 (nI n) o = o := ga_t (kk_l kk_40).1 (by decide) (by rw [(kk_l kk_40).2]; exact h) (by rw [(kk_l kk_40).2]; decide)
theorem gw_40 {m : eM} {n : Nat} {o : oX} (h : n < 12) : gw m 40 20 (nI n) o = o := gw_t (kk_l kk_40).1 (by decide) (by rw [(kk_l kk_40).2]; exact h) (by rw [(kk_l kk_40).2]; decide)
theorem al_40 {m : eM} : aln m 40 = 12 := (al_t (by decide)).trans (kk_l kk_40).2
theorem kk_41 : kk 41 = (20, 12) := by decide +kernel
theorem gl_41 {o : oX} : gl 41 o = o := if_pos ⟨by rw [(kk_l kk_41).1]; decide, by rw [(kk_l kk_41).1]; decide⟩
theorem ga_41 {m : eM} {n : Nat} {o : oX} (h : n < 12) : ga m 41 20 (nI n) o = o := ga_t (kk_l kk_41).1 (by decide) (by rw [(kk_l kk_41).2]; exact h) (by rw [(kk_l kk_41).2]; decide)
theorem gw_41 {m : eM} {n : Nat} {o : oX} (h : n < 12) : gw m 41 20 (nI n) o = o := gw_t (kk_l kk_41).1 (by decide) (by rw [(kk_l kk_41).2]; exact h) (by rw [(kk_l kk_41).2]; decide)
theorem al_41 {m : eM} : aln m 41 = 12 := (al_t (by decide)).trans (kk_l kk_41).2
theorem kk_42 : kk 42 = (20, 12) := by decide +kernel
theorem gl_42 {o : oX} : gl 42 o = o := if_pos ⟨by rw [(kk_l kk_42).1]; decide, by rw [(kk_l kk_42).1]; decide⟩
theorem ga_42 {m : eM} {n : Nat} {o : oX} (h : n < 12) : ga m 42 20 (nI n) o = o := ga_t (kk_l kk_42).1 (by decide) (by rw [(kk_l kk_42).2]; exact h) (by rw [(kk_l kk_42).2]; decide)
theorem gw_42 {m : eM} {n : Nat} {o : oX} (h : n < 12) : gw m 42 20 (nI n) o = o := gw_t (kk_l kk_42).1 (by decide) (by rw [(kk_l kk_42).2]; exact h) (by rw [(kk_l kk_42).2]; decide)
theorem al_42 {m : eM} : aln m 42 = 12 := (al_t (by decide)).trans (kk_l kk_42).2
theorem kk_43 : kk 43 = (20, 12) := by decide +kernel
theorem gl_43 {o : oX} : gl 43 o = o := if_pos ⟨by rw [(kk_l kk_43).1]; decide, by rw [(kk_l kk_43).1]; decide⟩
theorem ga_43 {m : eM} {n : Nat} {o : oX} (h : n < 12) : ga m 43 20 (nI n) o = o := ga_t (kk_l kk_43).1 (by decide) (by rw [(kk_l kk_43).2]; exact h) (by rw [(kk_l kk_43).2]; decide)
theorem gw_43 {m : eM} {n : Nat} {o : oX} (h : n < 12) : gw m 43 20 (nI n) o = o := gw_t (kk_l kk_43).1 (by decide) (by rw [(kk_l kk_43).2]; exact h) (by rw [(kk_l kk_43).2]; decide)
theorem al_43 {m : eM} : aln m 43 = 12 := (al_t (by decide)).trans (kk_l kk_43).2
theorem kk_44 : kk 44 = (24, 4) := by decide +kernel
theorem gl_44 {o : oX} : gl 44 o = o := if_pos ⟨by rw [(kk_l kk_44).1]; decide, by rw [(kk_l kk_44).1]; decide⟩
theorem ga_44 {m : eM} {n : Nat} {o : oX} (h : n < 4) : ga m 44 24 (nI n) o = o := ga_t (kk_l kk_44).1 (by decide) (by rw [(kk_l kk_44).2]; exact h) (by rw [(kk_l kk_44).2]; decide)
theorem gw_44 {m : eM} {n : Nat} {o : oX} (h : n < 4) : gw m 44 24 (nI n) o = o := gw_t (kk_l kk_44).1 (by decide) (by rw [(kk_l kk_44).2]; exact h) (by rw [(kk_l kk_44).2]; decide)
theorem al_44 {m : eM} : aln m 44 = 4 := (al_t (by decide)).trans (kk_l kk_44).2
theorem kk_45 : kk 45 = (23, 4) := by decide +kernel
theorem gl_45 {o : oX} : gl 45 o = o := if_pos ⟨by rw [(kk_l kk_45).1]; decide, by rw [(kk_l kk_45).1]; decide⟩
theorem ga_45 {m : eM} {n : Nat} {o : oX} (h : n < 4) : ga m 45 23 (nI n) o = o := ga_t (kk_l kk_45).1 (by decide) (by rw [(kk_l kk_45).2]; exact h) (by rw [(kk_l kk_45).2]; decide)
theorem gw_45 {m : eM} {n : Nat} {o : oX} (h : n < 4) : gw m 45 23 (nI n) o = o := gw_t (kk_l kk_45).1 (by decide) (by rw [(kk_l kk_45).2]; exact h) (by rw [(kk_l kk_45).2]; decide)
theorem al_45 {m : eM} : aln m 45 = 4 := (al_t (by decide)).trans (kk_l kk_45).2
theorem kk_47 : kk 47 = (21, 7) := by decide +kernel
theorem gl_47 {o : oX} : gl 47 o = o := if_pos ⟨by rw [(kk_l kk_47).1]; decide, by rw [(kk_l kk_47).1]; decide⟩
theorem ga_47 {m : eM} {n : Nat} {o : oX} (h : n < 7) : ga m 47 21 (nI n) o = o := ga_t (kk_l kk_47).1 (by decide) (by rw [(kk_l kk_47).2]; exact h) (by rw [(kk_l kk_47).2]; decide)
theorem gw_47 {m : eM} {n : Nat} {o : oX} (h : n < 7) : gw m 47 21 (nI n) o = o := gw_t (kk_l kk_47).1 (by decide) (by rw [(kk_l kk_47).2]; exact h) (by rw [(kk_l kk_47).2]; decide)
theorem al_47 {m : eM} : aln m 47 = 7 := (al_t (by decide)).trans (kk_l kk_47).2
theorem kk_48 : kk 48 = (21, 7) := by decide +kernel
theorem gl_48 {o : oX} : gl 48 o = o := if_pos ⟨by rw [(kk_l kk_48).1]; decide, by rw [(kk_l kk_48).1]; decide⟩
theorem ga_48 {m : eM} {n : Nat} {o : oX} (h : n < 7) : ga m 48 21 (nI n) o = o := ga_t (kk_l kk_48).1 (by decide) (by rw [(kk_l kk_48).2]; exact h) (by rw [(kk_l kk_48).2]; decide)
theorem gw_48 {m : eM} {n : Nat} {o : oX} (h : n < 7) : gw m 48 21 (nI n) o = o := gw_t (kk_l kk_48).1 (by decide) (by rw [(kk_l kk_48).2]; exact h) (by rw [(kk_l kk_48).2]; decide)
theorem al_48 {m : eM} : aln m 48 = 7 := (al_t (by decide)).trans (kk_l kk_48).2
theorem kk_50 : kk 50 = (20, 31) := by decide +kernel
theorem gl_50 {o : oX} : gl 50 o = o := if_pos ⟨by rw [(kk_l kk_50).1]; decide, by rw [(kk_l kk_50).1]; decide⟩
theorem ga_50 {m : eM} {n : Nat} {o : oX} (h : n < 31) : ga m 50 20 (nI n) o = o := ga_t (kk_l kk_50).1 (by decide) (by rw [(kk_l kk_50).2]; exact h) (by rw [(kk_l kk_50).2]; decide)
theorem gw_50 {m : eM} {n : Nat} {o : oX} (h : n < 31) : gw m 50 20 (nI n) o = o := gw_t (kk_l kk_50).1 (by decide) (by rw [(kk_l kk_50).2]; exact h) (by rw [(kk_l kk_50).2]; decide)
theorem al_50 {m : eM} : aln m 50 = 31 := (al_t (by decide)).trans (kk_l kk_50).2
theorem kk_51 : kk 51 = (20, 31) := by decide +kernel
theorem gl_51 {o : oX} : gl 51 o = o := if_pos ⟨by rw [(kk_l kk_51).1]; decide, by rw [(kk_l kk_51).1]; decide⟩
theorem ga_51 {m : eM} {n : Nat} {o : oX} (h : n < 31) : ga m 51 20 (nI n) o = o := ga_t (kk_l kk_51).1 (by decide) (by rw [(kk_l kk_51).2]; exact h) (by rw [(kk_l kk_51).2]; decide)
theorem gw_51 {m : eM} {n : Nat} {o : oX} (h : n < 31) : gw m 51 20 (nI n) o = o := gw_t (kk_l kk_51).1 (by decide) (by rw [(kk_l kk_51).2]; exact h) (by rw [(kk_l kk_51).2]; decide)
theorem al_51 {m : eM} : aln m 51 = 31 := (al_t (by decide)).trans (kk_l kk_51).2
theorem kk_52 : kk 52 = (21, 31) := by decide +kernel
theorem gl_52 {o : oX} : gl 52 o = o := if_pos ⟨by rw [(kk_l kk_52).1]; decide, by rw [(kk_l kk_52).1]; decide⟩
theorem ga_52 {m : eM} {n : Nat} {o : oX} (h : n < 31) : ga m 52 21 (nI n) o = o := ga_t (kk_l kk_52).1 (by decide) (by rw [(kk_l kk_52).2]; exact h) (by rw [(kk_l kk_52).2]; decide)
theorem gw_52 {m : eM} {n : Nat} {o : oX} (h : n < 31) : gw m 52 21 (nI n) o = o := gw_t (kk_l kk_52).1 (by decide) (by rw [(kk_l kk_52).2]; exact h) (by rw [(kk_l kk_52).2]; decide)
theorem al_52 {m : eM} : aln m 52 = 31 := (al_t (by decide)).trans (kk_l kk_52).2
theorem kk_53 : kk 53 = (21, 31) := by decide +kernel
theorem gl_53 {o : oX} : gl 53 o = o := if_pos ⟨by rw [(kk_l kk_53).1]; decide, by rw [(kk_l kk_53).1]; decide⟩
theorem ga_53 {m : eM} {n : Nat} {o : oX} (h : n < 31) : ga m 53 21 (nI n) o = o := ga_t (kk_l kk_53).1 (by decide) (by rw [(kk_l kk_53).2]; exact h) (by rw [(kk_l kk_53).2]; decide)
theorem gw_53 {m : eM} {n : Nat} {o : oX} (h : n < 31) : gw m 53 21 (nI n) o = o := gw_t (kk_l kk_53).1 (by decide) (by rw [(kk_l kk_53).2]; exact h) (by rw [(kk_l kk_53).2]; decide)
theorem al_53 {m : eM} : aln m 53 = 31 := (al_t (by decide)).trans (kk_l kk_53).2
theorem kk_54 : kk 54 = (21, 31) := by decide +kernel
theorem gl_54 {o : oX} : gl 54 o = o := if_pos ⟨by rw [(kk_l kk_54).1]; decide, by rw [(kk_l kk_54).1]; decide⟩
theorem ga_54 {m : eM} {n : Nat} {o : oX} (h : n < 31) : ga m 54 21 (nI n) o = o := ga_t (kk_l kk_54).1 (by decide) (by rw [(kk_l kk_54).2]; exact h) (by rw [(kk_l kk_54).2]; decide)
theorem gw_54 {m : eM} {n : Nat} {o : oX} (h : n < 31) : gw m 54 21 (nI n) o = o := gw_t (kk_l kk_54).1 (by decide) (by rw [(kk_l kk_54).2]; exact h) (by rw [(kk_l kk_54).2]; decide)
theorem al_54 {m : eM} : aln m 54 = 31 := (al_t (by decide)).trans (kk_l kk_54).2
theorem kk_56 : kk 56 = (20, 25) := by decide +kernel
theorem gl_56 {o : oX} : gl 56 o = o := if_pos ⟨by rw [(kk_l kk_56).1]; decide, by rw [(kk_l kk_56).1]; decide⟩
theorem ga_56 {m : eM} {n : Nat} {o : oX} (h : n < 25) : ga m 56 20 (nI n) o = o := ga_t (kk_l kk_56).1 (by decide) (by rw [(kk_l kk_56).2]; exact h) (by rw [(kk_l kk_56).2]; decide)
theorem gw_56 {m : eM} {n : Nat} {o : oX} (h : n < 25) : gw m 56 20 (nI n) o = o := gw_t (kk_l kk_56).1 (by decide) (by rw [(kk_l kk_56).2]; exact h) (by rw [(kk_l kk_56).2]; decide)
theorem al_56 {m : eM} : aln m 56 = 25 := (al_t (by decide)).trans (kk_l kk_56).2
theorem kk_57 : kk 57 = (20, 25) := by decide +kernel
theorem gl_57 {o : oX} : gl 57 o = o := if_pos ⟨by rw [(kk_l kk_57).1]; decide, by rw [(kk_l kk_57).1]; decide⟩
theorem ga_57 {m : eM} {n : Nat} {o : oX} (h : n < 25) : ga m 57 20 (nI n) o = o := ga_t (kk_l kk_57).1 (by decide) (by rw [(kk_l kk_57).2]; exact h) (by rw [(kk_l kk_57).2]; decide)
theorem gw_57 {m : eM} {n : Nat} {o : oX} (h : n < 25) : gw m 57 20 (nI n) o = o := gw_t (kk_l kk_57).1 (by decide) (by rw [(kk_l kk_57).2]; exact h) (by rw [(kk_l kk_57).2]; decide)
theorem al_57 {m : eM} : aln m 57 = 25 := (al_t (by decide)).trans (kk_l kk_57).2
theorem kk_59 : kk 59 = (20, 25) := by decide +kernel
theorem gl_59 {o : oX} : gl 59 o = o := if_pos ⟨by rw [(kk_l kk_59).1]; decide, by rw [(kk_l kk_59).1]; decide⟩
theorem ga_59 {m : eM} {n : Nat} {o : oX} (h : n < 25) : ga m 59 20 (nI n) o = o := ga_t (kk_l kk_59).1 (by decide) (by rw [(kk_l kk_59).2]; exact h) (by rw [(kk_l kk_59).2]; decide)
theorem gw_59 {m : eM} {n : Nat} {o : oX} (h : n < 25) : gw m 59 20 (nI n) o = o := gw_t (kk_l kk_59).1 (by decide) (by rw [(kk_l kk_59).2]; exact h) (by rw [(kk_l kk_59).2]; decide)
theorem al_59 {m : eM} : aln m 59 = 25 := (al_t (by decide)).trans (kk_l kk_59).2
theorem kk_60 : kk 60 = (20, 25) := by decide +kernel
theorem gl_60 {o : oX} : gl 60 o = o := if_pos ⟨by rw [(kk_l kk_60).1]; decide, by rw [(kk_l kk_60).1]; decide⟩
theorem ga_60 {m : eM} {n : Nat} {o : oX} (h : n < 25) : ga m 60 20 (nI n) o = o := ga_t (kk_l kk_60).1 (by decide) (by rw [(kk_l kk_60).2]; exact h) (by rw [(kk_l kk_60).2]; decide)
theorem gw_60 {m : eM} {n : Nat} {o : oX} (h : n < 25) : gw m 60 20 (nI n) o = o := gw_t (kk_l kk_60).1 (by decide) (by rw [(kk_l kk_60).2]; exact h) (by rw [(kk_l kk_60).2]; decide)
theorem al_60 {m : eM} : aln m 60 = 25 := (al_t (by decide)).trans (kk_l kk_60).2
theorem kk_62 : kk 62 = (20, 24) := by decide +kernel
theorem gl_62 {o : oX} : gl 62 o = o := if_pos ⟨by rw [(kk_l kk_62).1]; decide, by rw [(kk_l kk_62).1]; decide⟩
theorem ga_62 {m : eM} {n : Nat} {o : oX} (h : n < 24) : ga m 62 20 (nI n) o = o := ga_t (kk_l kk_62).1 (by decide) (by rw [(kk_l kk_62).2]; exact h) (by rw [(kk_l kk_62).2]; decide)
theorem gw_62 {m : eM} {n : Nat} {o : oX} (h : n < 24) : gw m 62 20 (nI n) o = o := gw_t (kk_l kk_62).1 (by decide) (by rw [(kk_l kk_62).2]; exact h) (by rw [(kk_l kk_62).2]; decide)
theorem al_62 {m : eM} : aln m 62 = 24 := (al_t (by decide)).trans (kk_l kk_62).2
theorem kk_63 : kk 63 = (21, 168) := by decide +kernel
theorem gl_63 {o : oX} : gl 63 o = o := if_pos ⟨by rw [(kk_l kk_63).1]; decide, by rw [(kk_l kk_63).1]; decide⟩
theorem ga_63 {m : eM} {n : Nat} {o : oX} (h : n < 168) : ga m 63 21 (nI n) o = o := ga_t (kk_l kk_63).1 (by decide) (by rw [(kk_l kk_63).2]; exact h) (by rw [(kk_l kk_63).2]; decide)
theorem gw_63 {m : eM} {n : Nat} {o : oX} (h : n < 168) : gw m 63 21 (nI n) o = o := gw_t (kk_l kk_63).1 (by decide) (by rw [(kk_l kk_63).2]; exact h) (by rw [(kk_l kk_63).2]; decide)
theorem al_63 {m : eM} : aln m 63 = 168 := (al_t (by decide)).trans (kk_l kk_63).2
theorem kk_64 : kk 64 = (21, 7) := by decide +kernel
theorem gl_64 {o : oX} : gl 64 o = o := if_pos ⟨by rw [(kk_l kk_64).1]; decide, by rw [(kk_l kk_64).1]; decide⟩
theorem ga_64 {m : eM} {n : Nat} {o : oX} (h : n < 7) : ga m 64 21 (nI n) o = o := ga_t (kk_l kk_64).1 (by decide) (by rw [(kk_l kk_64).2]; exact h) (by rw [(kk_l kk_64).2]; decide)
theorem gw_64 {m : eM} {n : Nat} {o : oX} (h : n < 7) : gw m 64 21 (nI n) o = o := gw_t (kk_l kk_64).1 (by decide) (by rw [(kk_l kk_64).2]; exact h) (by rw [(kk_l kk_64).2]; decide)
theorem al_64 {m : eM} : aln m 64 = 7 := (al_t (by decide)).trans (kk_l kk_64).2
theorem kk_65 : kk 65 = (20, 3) := by decide +kernel
theorem gl_65 {o : oX} : gl 65 o = o := if_pos ⟨by rw [(kk_l kk_65).1]; decide, by rw [(kk_l kk_65).1]; decide⟩
theorem ga_65 {m : eM} {n : Nat} {o : oX} (h : n < 3) : ga m 65 20 (nI n) o = o := ga_t (kk_l kk_65).1 (by decide) (by rw [(kk_l kk_65).2]; exact h) (by rw [(kk_l kk_65).2]; decide)
theorem gw_65 {m : eM} {n : Nat} {o : oX} (h : n < 3) : gw m 65 20 (nI n) o = o := gw_t (kk_l kk_65).1 (by decide) (by rw [(kk_l kk_65).2]; exact h) (by rw [(kk_l kk_65).2]; decide)
theorem al_65 {m : eM} : aln m 65 = 3 := (al_t (by decide)).trans (kk_l kk_65).2
theorem kk_66 : kk 66 = (21, 12) := by decide +kernel
theorem gl_66 {o : oX} : gl 66 o = o := if_pos ⟨by rw [(kk_l kk_66).1]; decide, by rw [(kk_l kk_66).1]; decide⟩
theorem ga_66 {m : eM} {n : Nat} {o : oX} (h : n < 12) : ga m 66 21 (nI n) o = o := ga_t (kk_l kk_66).1 (by decide) (by rw [(kk_l kk_66).2]; exact h) (by rw [(kk_l kk_66).2]; decide)
theorem gw_66 {m : eM} {n : Nat} {o : oX} (h : n < 12) : gw m 66 21 (nI n) o = o := gw_t (kk_l kk_66).1 (by decide) (by rw [(kk_l kk_66).2]; exact h) (by rw [(kk_l kk_66).2]; decide)
theorem al_66 {m : eM} : aln m 66 = 12 := (al_t (by decide)).trans (kk_l kk_66).2
theorem kk_67 : kk 67 = (21, 4096) := by decide +kernel
theorem gl_67 {o : oX} : gl 67 o = o := if_pos ⟨by rw [(kk_l kk_67).1]; decide, by rw [(kk_l kk_67).1]; decide⟩
theorem ga_67 {m : eM} {n : Nat} {o : oX} (h : n < 4096) : ga m 67 21 (nI n) o = o := ga_t (kk_l kk_67).1 (by decide) (by rw [(kk_l kk_67).2]; exact h) (by rw [(kk_l kk_67).2]; decide)
theorem gw_67 {m : eM} {n : Nat} {o : oX} (h : n < 4096) : gw m 67 21 (nI n) o = o := gw_t (kk_l kk_67).1 (by decide) (by rw [(kk_l kk_67).2]; exact h) (by rw [(kk_l kk_67).2]; decide)
theorem al_67 {m : eM} : aln m 67 = 4096 := (al_t (by decide)).trans (kk_l kk_67).2
theorem kk_209 : kk 209 = (20, 1000) := by decide +kernel
theorem gl_209 {o : oX} : gl 209 o = o := if_pos ⟨by rw [(kk_l kk_209).1]; decide, by rw [(kk_l kk_209).1]; decide⟩
theorem ga_209 {m : eM} {n : Nat} {o : oX} (h : n < 1000) : ga m 209 20 (nI n) o = o := ga_t (kk_l kk_209).1 (by decide) (by rw [(kk_l kk_209).2]; exact h) (by rw [(kk_l kk_209).2]; decide)
theorem gw_209 {m : eM} {n : Nat} {o : oX} (h : n < 1000) : gw m 209 20 (nI n) o = o := gw_t (kk_l kk_209).1 (by decide) (by rw [(kk_l kk_209).2]; exact h) (by rw [(kk_l kk_209).2]; decide)
theorem al_209 {m : eM} : aln m 209 = 1000 := (al_t (by decide)).trans (kk_l kk_209).2
theorem kk_210 : kk 210 = (20, 6) := by decide +kernel
theorem gl_210 {o : oX} : gl 210 o = o := if_pos ⟨by rw [(kk_l kk_210).1]; decide, by rw [(kk_l kk_210).1]; decide⟩
theorem ga_210 {m : eM} {n : Nat} {o : oX} (h : n < 6) : ga m 210 20 (nI n) o = o := ga_t (kk_l kk_210).1 (by decide) (by rw [(kk_l kk_210).2]; exact h) (by rw [(kk_l kk_210).2]; decide)
theorem gw_210 {m : eM} {n : Nat} {o : oX} (h : n < 6) : gw m 210 20 (nI n) o = o := gw_t (kk_l kk_210).1 (by decide) (by rw [(kk_l kk_210).2]; exact h) (by rw [(kk_l kk_210).2]; decide)
theorem al_210 {m : eM} : aln m 210 = 6 := (al_t (by decide)).trans (kk_l kk_210).2
theorem kk_211 : kk 211 = (21, 36) := by decide +kernel
theorem gl_211 {o : oX} : gl 211 o = o := if_pos ⟨by rw [(kk_l kk_211).1]; decide, by rw [(kk_l kk_211).1]; decide⟩
theorem ga_211 {m : eM} {n : Nat} {o : oX} (h : n < 36) : ga m 211 21 (nI n) o = o := ga_t (kk_l kk_211).1 (by decide) (by rw [(kk_l kk_211).2]; exact h) (by rw [(kk_l kk_211).2]; decide)
theorem gw_211 {m : eM} {n : Nat} {o : oX} (h : n < 36) : gw m 211 21 (nI n) o = o := gw_t (kk_l kk_211).1 (by decide) (by rw [(kk_l kk_211).2]; exact h) (by rw [(kk_l kk_211).2]; decide)
theorem al_211 {m : eM} : aln m 211 = 36 := (al_t (by decide)).trans (kk_l kk_211).2
theorem kk_212 : kk 212 = (20, 12) := by decide +kernel
theorem gl_212 {o : oX} : gl 212 o = o := if_pos ⟨by rw [(kk_l kk_212).1]; decide, by rw [(kk_l kk_212).1]; decide⟩
theorem ga_212 {m : eM} {n : Nat} {o : oX} (h : n < 12) : ga m 212 20 (nI n) o = o := ga_t (kk_l kk_212).1 (by decide) (by rw [(kk_l kk_212).2]; exact h) (by rw [(kk_l kk_212).2]; decide)
theorem gw_212 {m : eM} {n : Nat} {o : oX} (h : n < 12) : gw m 212 20 (nI n) o = o := gw_t (kk_l kk_212).1 (by decide) (by rw [(kk_l kk_212).2]; exact h) (by rw [(kk_l kk_212).2]; decide)
theorem al_212 {m : eM} : aln m 212 = 12 := (al_t (by decide)).trans (kk_l kk_212).2
theorem kk_213 : kk 213 = (20, 12) := by decide +kernel
theorem gl_213 {o : oX} : gl 213 o = o := if_pos ⟨by rw [(kk_l kk_213).1]; decide, by rw [(kk_l kk_213).1]; decide⟩
theorem ga_213 {m : eM} {n : Nat} {o : oX} (h : n < 12) : ga m 213 20 (nI n) o = o := ga_t (kk_l kk_213).1 (by decide) (by rw [(kk_l kk_213).2]; exact h) (by rw [(kk_l kk_213).2]; decide)
theorem gw_213 {m : eM} {n : Nat} {o : oX} (h : n < 12) : gw m 213 20 (nI n) o = o := gw_t (kk_l kk_213).1 (by decide) (by rw [(kk_l kk_213).2]; exact h) (by rw [(kk_l kk_213).2]; decide)
theorem al_213 {m : eM} : aln m 213 = 12 := (al_t (by decide)).trans (kk_l kk_213).2
theorem kk_214 : kk 214 = (20, 12) := by decide +kernel
theorem gl_214 {o : oX} : gl 214 o = o := if_pos ⟨by rw [(kk_l kk_214).1]; decide, by rw [(kk_l kk_214).1]; decide⟩
theorem ga_214 {m : eM} {n : Nat} {o : oX} (h : n < 12) : ga m 214 20 (nI n) o = o := ga_t (kk_l kk_214).1 (by decide) (by rw [(kk_l kk_214).2]; exact h) (by rw [(kk_l kk_214).2]; decide)
theorem gw_214 {m : eM} {n : Nat} {o : oX} (h : n < 12) : gw m 214 20 (nI n) o = o := gw_t (kk_l kk_214).1 (by decide) (by rw [(kk_l kk_214).2]; exact h) (by rw [(kk_l kk_214).2]; decide)
theorem al_214 {m : eM} : aln m 214 = 12 := (al_t (by decide)).trans (kk_l kk_214).2
theorem kk_215 : kk 215 = (20, 12) := by decide +kernel
theorem gl_215 {o : oX} : gl 215 o = o := if_pos ⟨by rw [(kk_l kk_215).1]; decide, by rw [(kk_l kk_215).1]; decide⟩
theorem ga_215 {m : eM} {n : Nat} {o : oX} (h : n < 12) : ga m 215 20 (nI n) o = o := ga_t (kk_l kk_215).1 (by decide) (by rw [(kk_l kk_215).2]; exact h) (by rw [(kk_l kk_215).2]; decide)
theorem gw_215 {m : eM} {n : Nat} {o : oX} (h : n < 12) : gw m 215 20 (nI n) o = o := gw_t (kk_l kk_215).1 (by decide) (by rw [(kk_l kk_215).2]; exact h) (by rw [(kk_l kk_215).2]; decide)
theorem al_215 {m : eM} : aln m 215 = 12 := (al_t (by decide)).trans (kk_l kk_215).2
theorem kk_216 : kk 216 = (20, 4) := by decide +kernel
theorem gl_216 {o : oX} : gl 216 o = o := if_pos ⟨by rw [(kk_l kk_216).1]; decide, by rw [(kk_l kk_216).1]; decide⟩
theorem ga_216 {m : eM} {n : Nat} {o : oX} (h : n < 4) : ga m 216 20 (nI n) o = o := ga_t (kk_l kk_216).1 (by decide) (by rw [(kk_l kk_216).2]; exact h) (by rw [(kk_l kk_216).2]; decide)
theorem gw_216 {m : eM} {n : Nat} {o : oX} (h : n < 4) : gw m 216 20 (nI n) o = o := gw_t (kk_l kk_216).1 (by decide) (by rw [(kk_l kk_216).2]; exact h) (by rw [(kk_l kk_216).2]; decide)
theorem al_216 {m : eM} : aln m 216 = 4 := (al_t (by decide)).trans (kk_l kk_216).2
theorem kk_217 : kk 217 = (20, 4) := by decide +kernel
theorem gl_217 {o : oX} : gl 217 o = o := if_pos ⟨by rw [(kk_l kk_217).1]; decide, by rw [(kk_l kk_217).1]; decide⟩
theorem ga_217 {m : eM} {n : Nat} {o : oX} (h : n < 4) : ga m 217 20 (nI n) o = o := ga_t (kk_l kk_217).1 (by decide) (by rw [(kk_l kk_217).2]; exact h) (by rw [(kk_l kk_217).2]; decide)
theorem gw_217 {m : eM} {n : Nat} {o : oX} (h : n < 4) : gw m 217 20 (nI n) o = o := gw_t (kk_l kk_217).1 (by decide) (by rw [(kk_l kk_217).2]; exact h) (by rw [(kk_l kk_217).2]; decide)
theorem al_217 {m : eM} : aln m 217 = 4 := (al_t (by decide)).trans (kk_l kk_217).2
theorem kk_218 : kk 218 = (23, 4) := by decide +kernel
theorem gl_218 {o : oX} : gl 218 o = o := if_pos ⟨by rw [(kk_l kk_218).1]; decide, by rw [(kk_l kk_218).1]; decide⟩
theorem ga_218 {m : eM} {n : Nat} {o : oX} (h : n < 4) : ga m 218 23 (nI n) o = o := ga_t (kk_l kk_218).1 (by decide) (by rw [(kk_l kk_218).2]; exact h) (by rw [(kk_l kk_218).2]; decide)
theorem gw_218 {m : eM} {n : Nat} {o : oX} (h : n < 4) : gw m 218 23 (nI n) o = o := gw_t (kk_l kk_218).1 (by decide) (by rw [(kk_l kk_218).2]; exact h) (by rw [(kk_l kk_218).2]; decide)
theorem al_218 {m : eM} : aln m 218 = 4 := (al_t (by decide)).trans (kk_l kk_218).2
theorem kk_219 : kk 219 = (21, 2) := by decide +kernel
theorem gl_219 {o : oX} : gl 219 o = o := if_pos ⟨by rw [(kk_l kk_219).1]; decide, by rw [(kk_l kk_219).1]; decide⟩
theorem ga_219 {m : eM} {n : Nat} {o : oX} (h : n < 2) : ga m 219 21 (nI n) o = o := ga_t (kk_l kk_219).1 (by decide) (by rw [(kk_l kk_219).2]; exact h) (by rw [(kk_l kk_219).2]; decide)
theorem gw_219 {m : eM} {n : Nat} {o : oX} (h : n < 2) : gw m 219 21 (nI n) o = o := gw_t (kk_l kk_219).1 (by decide) (by rw [(kk_l kk_219).2]; exact h) (by rw [(kk_l kk_219).2]; decide)
theorem al_219 {m : eM} : aln m 219 = 2 := (al_t (by decide)).trans (kk_l kk_219).2
theorem kk_220 : kk 220 = (20, 1000) := by decide +kernel
theorem gl_220 {o : oX} : gl 220 o = o := if_pos ⟨by rw [(kk_l kk_220).1]; decide, by rw [(kk_l kk_220).1]; decide⟩
theorem ga_220 {m : eM} {n : Nat} {o : oX} (h : n < 1000) : ga m 220 20 (nI n) o = o := ga_t (kk_l kk_220).1 (by decide) (by rw [(kk_l kk_220).2]; exact h) (by rw [(kk_l kk_220).2]; decide)
theorem gw_220 {m : eM} {n : Nat} {o : oX} (h : n < 1000) : gw m 220 20 (nI n) o = o := gw_t (kk_l kk_220).1 (by decide) (by rw [(kk_l kk_220).2]; exact h) (by rw [(kk_l kk_220).2]; decide)
theorem al_220 {m : eM} : aln m 220 = 1000 := (al_t (by decide)).trans (kk_l kk_220).2
theorem kk_221 : kk 221 = (20, 1) := by decide +kernel
theorem gl_221 {o : oX} : gl 221 o = o := if_pos ⟨by rw [(kk_l kk_221).1]; decide, by rw [(kk_l kk_221).1]; decide⟩
theorem ga_221 {m : eM} {n : Nat} {o : oX} (h : n < 1) : ga m 221 20 (nI n) o = o := ga_t (kk_l kk_221).1 (by decide) (by rw [(kk_l kk_221).2]; exact h) (by rw [(kk_l kk_221).2]; decide)
theorem gw_221 {m : eM} {n : Nat} {o : oX} (h : n < 1) : gw m 221 20 (nI n) o = o := gw_t (kk_l kk_221).1 (by decide) (by rw [(kk_l kk_221).2]; exact h) (by rw [(kk_l kk_221).2]; decide)
theorem al_221 {m : eM} : aln m 221 = 1 := (al_t (by decide)).trans (kk_l kk_221).2
theorem kk_222 : kk 222 = (20, 1) := by decide +kernel
theorem gl_222 {o : oX} : gl 222 o = o := if_pos ⟨by rw [(kk_l kk_222).1]; decide, by rw [(kk_l kk_222).1]; decide⟩
theorem ga_222 {m : eM} {n : Nat} {o : oX} (h : n < 1) : ga m 222 20 (nI n) o = o := ga_t (kk_l kk_222).1 (by decide) (by rw [(kk_l kk_222).2]; exact h) (by rw [(kk_l kk_222).2]; decide)
theorem gw_222 {m : eM} {n : Nat} {o : oX} (h : n < 1) : gw m 222 20 (nI n) o = o := gw_t (kk_l kk_222).1 (by decide) (by rw [(kk_l kk_222).2]; exact h) (by rw [(kk_l kk_222).2]; decide)
theorem al_222 {m : eM} : aln m 222 = 1 := (al_t (by decide)).trans (kk_l kk_222).2
theorem kk_223 : kk 223 = (20, 7) := by decide +kernel
theorem gl_223 {o : oX} : gl 223 o = o := if_pos ⟨by rw [(kk_l kk_223).1]; decide, by rw [(kk_l kk_223).1]; decide⟩
theorem ga_223 {m : eM} {n : Nat} {o : oX} (h : n < 7) : ga m 223 20 (nI n) o = o := ga_t (kk_l kk_223).1 (by decide) (by rw [(kk_l kk_223).2]; exact h) (by rw [(kk_l kk_223).2]; decide)
theorem gw_223 {m : eM} {n : Nat} {o : oX} (h : n < 7) : gw m 223 20 (nI n) o = o := gw_t (kk_l kk_223).1 (by decide) (by rw [(kk_l kk_223).2]; exact h) (by rw [(kk_l kk_223).2]; decide)
theorem al_223 {m : eM} : aln m 223 = 7 := (al_t (by decide)).trans (kk_l kk_223).2
theorem kk_224 : kk 224 = (23, 7) := by decide +kernel
theorem gl_224 {o : oX} : gl 224 o = o := if_pos ⟨by rw [(kk_l kk_224).1]; decide, by rw [(kk_l kk_224).1]; decide⟩
theorem ga_224 {m : eM} {n : Nat} {o : oX} (h : n < 7) : ga m 224 23 (nI n) o = o := ga_t (kk_l kk_224).1 (by decide) (by rw [(kk_l kk_224).2]; exact h) (by rw [(kk_l kk_224).2]; decide)
theorem gw_224 {m : eM} {n : Nat} {o : oX} (h : n < 7) : gw m 224 23 (nI n) o = o := gw_t (kk_l kk_224).1 (by decide) (by rw [(kk_l kk_224).2]; exact h) (by rw [(kk_l kk_224).2]; decide)
theorem al_224 {m : eM} : aln m 224 = 7 := (al_t (by decide)).trans (kk_l kk_224).2
theorem kk_225 : kk 225 = (20, 7) := by decide +kernel
theorem gl_225 {o : oX} : gl 225 o = o := if_pos ⟨by rw [(kk_l kk_225).1]; decide, by rw [(kk_l kk_225).1]; decide⟩
theorem ga_225 {m : eM} {n : Nat} {o : oX} (h : n < 7) : ga m 225 20 (nI n) o = o := ga_t (kk_l kk_225).1 (by decide) (by rw [(kk_l kk_225).2]; exact h) (by rw [(kk_l kk_225).2]; decide)
theorem gw_225 {m : eM} {n : Nat} {o : oX} (h : n < 7) : gw m 225 20 (nI n) o = o := gw_t (kk_l kk_225).1 (by decide) (by rw [(kk_l kk_225).2]; exact h) (by rw [(kk_l kk_225).2]; decide)
theorem al_225 {m : eM} : aln m 225 = 7 := (al_t (by decide)).trans (kk_l kk_225).2
theorem kk_226 : kk 226 = (20, 7) := by decide +kernel
theorem gl_226 {o : oX} : gl 226 o = o := if_pos ⟨by rw [(kk_l kk_226).1]; decide, by rw [(kk_l kk_226).1]; decide⟩
theorem ga_226 {m : eM} {n : Nat} {o : oX} (h : n < 7) : ga m 226 20 (nI n) o = o := ga_t (kk_l kk_226).1 (by decide) (by rw [(kk_l kk_226).2]; exact h) (by rw [(kk_l kk_226).2]; decide)
theorem gw_226 {m : eM} {n : Nat} {o : oX} (h : n < 7) : gw m 226 20 (nI n) o = o := gw_t (kk_l kk_226).1 (by decide) (by rw [(kk_l kk_226).2]; exact h) (by rw [(kk_l kk_226).2]; decide)
theorem al_226 {m : eM} : aln m 226 = 7 := (al_t (by decide)).trans (kk_l kk_226).2
theorem kk_227 : kk 227 = (20, 7) := by decide +kernel
theorem gl_227 {o : oX} : gl 227 o = o := if_pos ⟨by rw [(kk_l kk_227).1]; decide, by rw [(kk_l kk_227).1]; decide⟩
theorem ga_227 {m : eM} {n : Nat} {o : oX} (h : n < 7) : ga m 227 20 (nI n) o = o := ga_t (kk_l kk_227).1 (by decide) (by rw [(kk_l kk_227).2]; exact h) (by rw [(kk_l kk_227).2]; decide)
theorem gw_227 {m : eM} {n : Nat} {o : oX} (h : n < 7) : gw m 227 20 (nI n) o = o := gw_t (kk_l kk_227).1 (by decide) (by rw [(kk_l kk_227).2]; exact h) (by rw [(kk_l kk_227).2]; decide)
theorem al_227 {m : eM} : aln m 227 = 7 := (al_t (by decide)).trans (kk_l kk_227).2
theorem kk_228 : kk 228 = (20, 7) := by decide +kernel
theorem gl_228 {o : oX} : gl 228 o = o := if_pos ⟨by rw [(kk_l kk_228).1]; decide, by rw [(kk_l kk_228).1]; decide⟩
theorem ga_228 {m : eM} {n : Nat} {o : oX} (h : n < 7) : ga m 228 20 (nI n) o = o := ga_t (kk_l kk_228).1 (by decide) (by rw [(kk_l kk_228).2]; exact h) (by rw [(kk_l kk_228).2]; decide)
theorem gw_228 {m : eM} {n : Nat} {o : oX} (h : n < 7) : gw m 228 20 (nI n) o = o := gw_t (kk_l kk_228).1 (by decide) (by rw [(kk_l kk_228).2]; exact h) (by rw [(kk_l kk_228).2]; decide)
theorem al_228 {m : eM} : aln m 228 = 7 := (al_t (by decide)).trans (kk_l kk_228).2
theorem kk_229 : kk 229 = (20, 7) := by decide +kernel
theorem gl_229 {o : oX} : gl 229 o = o := if_pos ⟨by rw [(kk_l kk_229).1]; decide, by rw [(kk_l kk_229).1]; decide⟩
theorem ga_229 {m : eM} {n : Nat} {o : oX} (h : n < 7) : ga m 229 20 (nI n) o = o := ga_t (kk_l kk_229).1 (by decide) (by rw [(kk_l kk_229).2]; exact h) (by rw [(kk_l kk_229).2]; decide)
theorem gw_229 {m : eM} {n : Nat} {o : oX} (h : n < 7) : gw m 229 20 (nI n) o = o := gw_t (kk_l kk_229).1 (by decide) (by rw [(kk_l kk_229).2]; exact h) (by rw [(kk_l kk_229).2]; decide)
theorem al_229 {m : eM} : aln m 229 = 7 := (al_t (by decide)).trans (kk_l kk_229).2
theorem kk_230 : kk 230 = (20, 7) := by decide +kernel
theorem gl_230 {o : oX} : gl 230 o = o := if_pos ⟨by rw [(kk_l kk_230).1]; decide, by rw [(kk_l kk_230).1]; decide⟩
theorem ga_230 {m : eM} {n : Nat} {o : oX} (h : n < 7) : ga m 230 20 (nI n) o = o := ga_t (kk_l kk_230).1 (by decide) (by rw [(kk_l kk_230).2]; exact h) (by rw [(kk_l kk_230).2]; decide)
theorem gw_230 {m : eM} {n : Nat} {o : oX} (h : n < 7) : gw m 230 20 (nI n) o = o := gw_t (kk_l kk_230).1 (by decide) (by rw [(kk_l kk_230).2]; exact h) (by rw [(kk_l kk_230).2]; decide)
theorem al_230 {m : eM} : aln m 230 = 7 := (al_t (by decide)).trans (kk_l kk_230).2
theorem kk_231 : kk 231 = (20, 7) := by decide +kernel
theorem gl_231 {o : oX} : gl 231 o = o := if_pos ⟨by rw [(kk_l kk_231).1]; decide, by rw [(kk_l kk_231).1]; decide⟩
theorem ga_231 {m : eM} {n : Nat} {o : oX} (h : n < 7) : ga m 231 20 (nI n) o = o := ga_t (kk_l kk_231).1 (by decide) (by rw [(kk_l kk_231).2]; exact h) (by rw [(kk_l kk_231).2]; decide)
theorem gw_231 {m : eM} {n : Nat} {o : oX} (h : n < 7) : gw m 231 20 (nI n) o = o := gw_t (kk_l kk_231).1 (by decide) (by rw [(kk_l kk_231).2]; exact h) (by rw [(kk_l kk_231).2]; decide)
theorem al_231 {m : eM} : aln m 231 = 7 := (al_t (by decide)).trans (kk_l kk_231).2
theorem kk_232 : kk 232 = (20, 7) := by decide +kernel
theorem gl_232 {o : oX} : gl 232 o = o := if_pos ⟨by rw [(kk_l kk_232).1]; decide, by rw [(kk_l kk_232).1]; decide⟩
theorem ga_232 {m : eM} {n : Nat} {o : oX} (h : n < 7) : ga m 232 20 (nI n) o = o := ga_t (kk_l kk_232).1 (by decide) (by rw [(kk_l kk_232).2]; exact h) (by rw [(kk_l kk_232).2]; decide)
theorem gw_232 {m : eM} {n : Nat} {o : oX} (h : n < 7) : gw m 232 20 (nI n) o = o := gw_t (kk_l kk_232).1 (by decide) (by rw [(kk_l kk_232).2]; exact h) (by rw [(kk_l kk_232).2]; decide)
theorem al_232 {m : eM} : aln m 232 = 7 := (al_t (by decide)).trans (kk_l kk_232).2
theorem kk_233 : kk 233 = (20, 7) := by decide +kernel
theorem gl_233 {o : oX} : gl 233 o = o := if_pos ⟨by rw [(kk_l kk_233).1]; decide, by rw [(kk_l kk_233).1]; decide⟩
theorem ga_233 {m : eM} {n : Nat} {o : oX} (h : n < 7) : ga m 233 20 (nI n) o = o := ga_t (kk_l kk_233).1 (by decide) (by rw [(kk_l kk_233).2]; exact h) (by rw [(kk_l kk_233).2]; decide)
theorem gw_233 {m : eM} {n : Nat} {o : oX} (h : n < 7) : gw m 233 20 (nI n) o = o := gw_t (kk_l kk_233).1 (by decide) (by rw [(kk_l kk_233).2]; exact h) (by rw [(kk_l kk_233).2]; decide)
theorem al_233 {m : eM} : aln m 233 = 7 := (al_t (by decide)).trans (kk_l kk_233).2
theorem kk_234 : kk 234 = (20, 20) := by decide +kernel
theorem gl_234 {o : oX} : gl 234 o = o := if_pos ⟨by rw [(kk_l kk_234).1]; decide, by rw [(kk_l kk_234).1]; decide⟩
theorem ga_234 {m : eM} {n : Nat} {o : oX} (h : n < 20) : ga m 234 20 (nI n) o = o := ga_t (kk_l kk_234).1 (by decide) (by rw [(kk_l kk_234).2]; exact h) (by rw [(kk_l kk_234).2]; decide)
theorem gw_234 {m : eM} {n : Nat} {o : oX} (h : n < 20) : gw m 234 20 (nI n) o = o := gw_t (kk_l kk_234).1 (by decide) (by rw [(kk_l kk_234).2]; exact h) (by rw [(kk_l kk_234).2]; decide)
theorem al_234 {m : eM} : aln m 234 = 20 := (al_t (by decide)).trans (kk_l kk_234).2
theorem kk_235 : kk 235 = (23, 2) := by decide +kernel
theorem gl_235 {o : oX} : gl 235 o = o := if_pos ⟨by rw [(kk_l kk_235).1]; decide, by rw [(kk_l kk_235).1]; decide⟩
theorem ga_235 {m : eM} {n : Nat} {o : oX} (h : n < 2) : ga m 235 23 (nI n) o = o := ga_t (kk_l kk_235).1 (by decide) (by rw [(kk_l kk_235).2]; exact h) (by rw [(kk_l kk_235).2]; decide)
theorem gw_235 {m : eM} {n : Nat} {o : oX} (h : n < 2) : gw m 235 23 (nI n) o = o := gw_t (kk_l kk_235).1 (by decide) (by rw [(kk_l kk_235).2]; exact h) (by rw [(kk_l kk_235).2]; decide)
theorem al_235 {m : eM} : aln m 235 = 2 := (al_t (by decide)).trans (kk_l kk_235).2
theorem kk_236 : kk 236 = (21, 4) := by decide +kernel
theorem gl_236 {o : oX} : gl 236 o = o := if_pos ⟨by rw [(kk_l kk_236).1]; decide, by rw [(kk_l kk_236).1]; decide⟩
theorem ga_236 {m : eM} {n : Nat} {o : oX} (h : n < 4) : ga m 236 21 (nI n) o = o := ga_t (kk_l kk_236).1 (by decide) (by rw [(kk_l kk_236).2]; exact h) (by rw [(kk_l kk_236).2]; decide)
theorem gw_236 {m : eM} {n : Nat} {o : oX} (h : n < 4) : gw m 236 21 (nI n) o = o := gw_t (kk_l kk_236).1 (by decide) (by rw [(kk_l kk_236).2]; exact h) (by rw [(kk_l kk_236).2]; decide)
theorem al_236 {m : eM} : aln m 236 = 4 := (al_t (by decide)).trans (kk_l kk_236).2
theorem kk_237 : kk 237 = (20, 31) := by decide +kernel
theorem gl_237 {o : oX} : gl 237 o = o := if_pos ⟨by rw [(kk_l kk_237).1]; decide, by rw [(kk_l kk_237).1]; decide⟩
theorem ga_237 {m : eM} {n : Nat} {o : oX} (h : n < 31) : ga m 237 20 (nI n) o = o := ga_t (kk_l kk_237).1 (by decide) (by rw [(kk_l kk_237).2]; exact h) (by rw [(kk_l kk_237).2]; decide)
theorem gw_237 {m : eM} {n : Nat} {o : oX} (h : n < 31) : gw m 237 20 (nI n) o = o := gw_t (kk_l kk_237).1 (by decide) (by rw [(kk_l kk_237).2]; exact h) (by rw [(kk_l kk_237).2]; decide)
theorem al_237 {m : eM} : aln m 237 = 31 := (al_t (by decide)).trans (kk_l kk_237).2
theorem kk_238 : kk 238 = (20, 31) := by decide +kernel
theorem gl_238 {o : oX} : gl 238 o = o := if_pos ⟨by rw [(kk_l kk_238).1]; decide, by rw [(kk_l kk_238).1]; decide⟩
theorem ga_238 {m : eM} {n : Nat} {o : oX} (h : n < 31) : ga m 238 20 (nI n) o = o := ga_t (kk_l kk_238).1 (by decide) (by rw [(kk_l kk_238).2]; exact h) (by rw [(kk_l kk_238).2]; decide)
theorem gw_238 {m : eM} {n : Nat} {o : oX} (h : n < 31) : gw m 238 20 (nI n) o = o := gw_t (kk_l kk_238).1 (by decide) (by rw [(kk_l kk_238).2]; exact h) (by rw [(kk_l kk_238).2]; decide)
theorem al_238 {m : eM} : aln m 238 = 31 := (al_t (by decide)).trans (kk_l kk_238).2
theorem kk_239 : kk 239 = (21, 31) := by decide +kernel
theorem gl_239 {o : oX} : gl 239 o = o := if_pos ⟨by rw [(kk_l kk_239).1]; decide, by rw [(kk_l kk_239).1]; decide⟩
theorem ga_239 {m : eM} {n : Nat} {o : oX} (h : n < 31) : ga m 239 21 (nI n) o = o := ga_t (kk_l kk_239).1 (by decide) (by rw [(kk_l kk_239).2]; exact h) (by rw [(kk_l kk_239).2]; decide)
theorem gw_239 {m : eM} {n : Nat} {o : oX} (h : n < 31) : gw m 239 21 (nI n) o = o := gw_t (kk_l kk_239).1 (by decide) (by rw [(kk_l kk_239).2]; exact h) (by rw [(kk_l kk_239).2]; decide)
theorem al_239 {m : eM} : aln m 239 = 31 := (al_t (by decide)).trans (kk_l kk_239).2
theorem kk_240 : kk 240 = (23, 31) := by decide +kernel
theorem gl_240 {o : oX} : gl 240 o = o := if_pos ⟨by rw [(kk_l kk_240).1]; decide, by rw [(kk_l kk_240).1]; decide⟩
theorem ga_240 {m : eM} {n : Nat} {o : oX} (h : n < 31) : ga m 240 23 (nI n) o = o := ga_t (kk_l kk_240).1 (by decide) (by rw [(kk_l kk_240).2]; exact h) (by rw [(kk_l kk_240).2]; decide)
theorem gw_240 {m : eM} {n : Nat} {o : oX} (h : n < 31) : gw m 240 23 (nI n) o = o := gw_t (kk_l kk_240).1 (by decide) (by rw [(kk_l kk_240).2]; exact h) (by rw [(kk_l kk_240).2]; decide)
theorem al_240 {m : eM} : aln m 240 = 31 := (al_t (by decide)).trans (kk_l kk_240).2
theorem kk_241 : kk 241 = (20, 31) := by decide +kernel
theorem gl_241 {o : oX} : gl 241 o = o := if_pos ⟨by rw [(kk_l kk_241).1]; decide, by rw [(kk_l kk_241).1]; decide⟩
theorem ga_241 {m : eM} {n : Nat} {o : oX} (h : n < 31) : ga m 241 20 (nI n) o = o := ga_t (kk_l kk_241).1 (by decide) (by rw [(kk_l kk_241).2]; exact h) (by rw [(kk_l kk_241).2]; decide)
theorem gw_241 {m : eM} {n : Nat} {o : oX} (h : n < 31) : gw m 241 20 (nI n) o = o := gw_t (kk_l kk_241).1 (by decide) (by rw [(kk_l kk_241).2]; exact h) (by rw [(kk_l kk_241).2]; decide)
theorem al_241 {m : eM} : aln m 241 = 31 := (al_t (by decide)).trans (kk_l kk_241).2
theorem kk_242 : kk 242 = (21, 62) := by decide +kernel
theorem gl_242 {o : oX} : gl 242 o = o := if_pos ⟨by rw [(kk_l kk_242).1]; decide, by rw [(kk_l kk_242).1]; decide⟩
theorem ga_242 {m : eM} {n : Nat} {o : oX} (h : n < 62) : ga m 242 21 (nI n) o = o := ga_t (kk_l kk_242).1 (by decide) (by rw [(kk_l kk_242).2]; exact h) (by rw [(kk_l kk_242).2]; decide)
theorem gw_242 {m : eM} {n : Nat} {o : oX} (h : n < 62) : gw m 242 21 (nI n) o = o := gw_t (kk_l kk_242).1 (by decide) (by rw [(kk_l kk_242).2]; exact h) (by rw [(kk_l kk_242).2]; decide)
theorem al_242 {m : eM} : aln m 242 = 62 := (al_t (by decide)).trans (kk_l kk_242).2
theorem kk_243 : kk 243 = (20, 12) := by decide +kernel
theorem gl_243 {o : oX} : gl 243 o = o := if_pos ⟨by rw [(kk_l kk_243).1]; decide, by rw [(kk_l kk_243).1]; decide⟩
theorem ga_243 {m : eM} {n : Nat} {o : oX} (h : n < 12) : ga m 243 20 (nI n) o = o := ga_t (kk_l kk_243).1 (by decide) (by rw [(kk_l kk_243).2]; exact h) (by rw [(kk_l kk_243).2]; decide)
theorem gw_243 {m : eM} {n : Nat} {o : oX} (h : n < 12) : gw m 243 20 (nI n) o = o := gw_t (kk_l kk_243).1 (by decide) (by rw [(kk_l kk_243).2]; exact h) (by rw [(kk_l kk_243).2]; decide)
theorem al_243 {m : eM} : aln m 243 = 12 := (al_t (by decide)).trans (kk_l kk_243).2
theorem kk_244 : kk 244 = (20, 12) := by decide +kernel
theorem gl_244 {o : oX} : gl 244 o = o := if_pos ⟨by rw [(kk_l kk_244).1]; decide, by rw [(kk_l kk_244).1]; decide⟩
theorem ga_244 {m : eM} {n : Nat} {o : oX} (h : n < 12) : ga m 244 20 (nI n) o = o := ga_t (kk_l kk_244).1 (by decide) (by rw [(kk_l kk_244).2]; exact h) (by rw [(kk_l kk_244).2]; decide)
theorem gw_244 {m : eM} {n : Nat} {o : oX} (h : n < 12) : gw m 244 20 (nI n) o = o := gw_t (kk_l kk_244).1 (by decide) (by rw [(kk_l kk_244).2]; exact h) (by rw [(kk_l kk_244).2]; decide)
theorem al_244 {m : eM} : aln m 244 = 12 := (al_t (by decide)).trans (kk_l kk_244).2
theorem kk_245 : kk 245 = (20, 12) := by decide +kernel
theorem gl_245 {o : oX} : gl 245 o = o := if_pos ⟨by rw [(kk_l kk_245).1]; decide, by rw [(kk_l kk_245).1]; decide⟩
theorem ga_245 {m : eM} {n : Nat} {o : oX} (h : n < 12) : ga m 245 20 (nI n) o = o := ga_t (kk_l kk_245).1 (by decide) (by rw [(kk_l kk_245).2]; exact h) (by rw [(kk_l kk_245).2]; decide)
theorem gw_245 {m : eM} {n : Nat} {o : oX} (h : n < 12) : gw m 245 20 (nI n) o = o := gw_t (kk_l kk_245).1 (by decide) (by rw [(kk_l kk_245).2]; exact h) (by rw [(kk_l kk_245).2]; decide)
theorem al_245 {m : eM} : aln m 245 = 12 := (al_t (by decide)).trans (kk_l kk_245).2
theorem kk_246 : kk 246 = (20, 12) := by decide +kernel
theorem gl_246 {o : oX} : gl 246 o = o := if_pos ⟨by rw [(kk_l kk_246).1]; decide, by rw [(kk_l kk_246).1]; decide⟩
theorem ga_246 {m : eM} {n : Nat} {o : oX} (h : n < 12) : ga m 246 20 (nI n) o = o := ga_t (kk_l kk_246).1 (by decide) (by rw [(kk_l kk_246).2]; exact h) (by rw [(kk_l kk_246).2]; decide)
theorem gw_246 {m : eM} {n : Nat} {o : oX} (h : n < 12) : gw m 246 20 (nI n) o = o := gw_t (kk_l kk_246).1 (by decide) (by rw [(kk_l kk_246).2]; exact h) (by rw [(kk_l kk_246).2]; decide)
theorem al_246 {m : eM} : aln m 246 = 12 := (al_t (by decide)).trans (kk_l kk_246).2
theorem kk_247 : kk 247 = (21, 12) := by decide +kernel
theorem gl_247 {o : oX} : gl 247 o = o := if_pos ⟨by rw [(kk_l kk_247).1]; decide, by rw [(kk_l kk_247).1]; decide⟩
theorem ga_247 {m : eM} {n : Nat} {o : oX} (h : n < 12) : ga m 247 21 (nI n) o = o := ga_t (kk_l kk_247).1 (by decide) (by rw [(kk_l kk_247).2]; exact h) (by rw [(kk_l kk_247).2]; decide)
theorem gw_247 {m : eM} {n : Nat} {o : oX} (h : n < 12) : gw m 247 21 (nI n) o = o := gw_t (kk_l kk_247).1 (by decide) (by rw [(kk_l kk_247).2]; exact h) (by rw [(kk_l kk_247).2]; decide)
theorem al_247 {m : eM} : aln m 247 = 12 := (al_t (by decide)).trans (kk_l kk_247).2
theorem kk_248 : kk 248 = (20, 360) := by decide +kernel
theorem gl_248 {o : oX} : gl 248 o = o := if_pos ⟨by rw [(kk_l kk_248).1]; decide, by rw [(kk_l kk_248).1]; decide⟩
theorem ga_248 {m : eM} {n : Nat} {o : oX} (h : n < 360) : ga m 248 20 (nI n) o = o := ga_t (kk_l kk_248).1 (by decide) (by rw [(kk_l kk_248).2]; exact h) (by rw [(kk_l kk_248).2]; decide)
theorem gw_248 {m : eM} {n : Nat} {o : oX} (h : n < 360) : gw m 248 20 (nI n) o = o := gw_t (kk_l kk_248).1 (by decide) (by rw [(kk_l kk_248).2]; exact h) (by rw [(kk_l kk_248).2]; decide)
theorem al_248 {m : eM} : aln m 248 = 360 := (al_t (by decide)).trans (kk_l kk_248).2
theorem kk_249 : kk 249 = (20, 360) := by decide +kernel
theorem gl_249 {o : oX} : gl 249 o = o := if_pos ⟨by rw [(kk_l kk_249).1]; decide, by rw [(kk_l kk_249).1]; decide⟩
theorem ga_249 {m : eM} {n : Nat} {o : oX} (h : n < 360) : ga m 249 20 (nI n) o = o := ga_t (kk_l kk_249).1 (by decide) (by rw [(kk_l kk_249).2]; exact h) (by rw [(kk_l kk_249).2]; decide)
theorem gw_249 {m : eM} {n : Nat} {o : oX} (h : n < 360) : gw m 249 20 (nI n) o = o := gw_t (kk_l kk_249).1 (by decide) (by rw [(kk_l kk_249).2]; exact h) (by rw [(kk_l kk_249).2]; decide)
theorem al_249 {m : eM} : aln m 249 = 360 := (al_t (by decide)).trans (kk_l kk_249).2
theorem kk_250 : kk 250 = (20, 4) := by decide +kernel
theorem gl_250 {o : oX} : gl 250 o = o := if_pos ⟨by rw [(kk_l kk_250).1]; decide, by rw [(kk_l kk_250).1]; decide⟩
theorem ga_250 {m : eM} {n : Nat} {o : oX} (h : n < 4) : ga m 250 20 (nI n) o = o := ga_t (kk_l kk_250).1 (by decide) (by rw [(kk_l kk_250).2]; exact h) (by rw [(kk_l kk_250).2]; decide)
theorem gw_250 {m : eM} {n : Nat} {o : oX} (h : n < 4) : gw m 250 20 (nI n) o = o := gw_t (kk_l kk_250).1 (by decide) (by rw [(kk_l kk_250).2]; exact h) (by rw [(kk_l kk_250).2]; decide)
theorem al_250 {m : eM} : aln m 250 = 4 := (al_t (by decide)).trans (kk_l kk_250).2
theorem kk_251 : kk 251 = (20, 4) := by decide +kernel
theorem gl_251 {o : oX} : gl 251 o = o := if_pos ⟨by rw [(kk_l kk_251).1]; decide, by rw [(kk_l kk_251).1]; decide⟩
theorem ga_251 {m : eM} {n : Nat} {o : oX} (h : n < 4) : ga m 251 20 (nI n) o = o := ga_t (kk_l kk_251).1 (by decide) (by rw [(kk_l kk_251).2]; exact h) (by rw [(kk_l kk_251).2]; decide)
theorem gw_251 {m : eM} {n : Nat} {o : oX} (h : n < 4) : gw m 251 20 (nI n) o = o := gw_t (kk_l kk_251).1 (by decide) (by rw [(kk_l kk_251).2]; exact h) (by rw [(kk_l kk_251).2]; decide)
theorem al_251 {m : eM} : aln m 251 = 4 := (al_t (by decide)).trans (kk_l kk_251).2
theorem kk_252 : kk 252 = (20, 24) := by decide +kernel
theorem gl_252 {o : oX} : gl 252 o = o := if_pos ⟨by rw [(kk_l kk_252).1]; decide, by rw [(kk_l kk_252).1]; decide⟩
theorem ga_252 {m : eM} {n : Nat} {o : oX} (h : n < 24) : ga m 252 20 (nI n) o = o := ga_t (kk_l kk_252).1 (by decide) (by rw [(kk_l kk_252).2]; exact h) (by rw [(kk_l kk_252).2]; decide)
theorem gw_252 {m : eM} {n : Nat} {o : oX} (h : n < 24) : gw m 252 20 (nI n) o = o := gw_t (kk_l kk_252).1 (by decide) (by rw [(kk_l kk_252).2]; exact h) (by rw [(kk_l kk_252).2]; decide)
theorem al_252 {m : eM} : aln m 252 = 24 := (al_t (by decide)).trans (kk_l kk_252).2
theorem kk_253 : kk 253 = (20, 1536) := by decide +kernel
theorem gl_253 {o : oX} : gl 253 o = o := if_pos ⟨by rw [(kk_l kk_253).1]; decide, by rw [(kk_l kk_253).1]; decide⟩
theorem ga_253 {m : eM} {n : Nat} {o : oX} (h : n < 1536) : ga m 253 20 (nI n) o = o := ga_t (kk_l kk_253).1 (by decide) (by rw [(kk_l kk_253).2]; exact h) (by rw [(kk_l kk_253).2]; decide)
theorem gw_253 {m : eM} {n : Nat} {o : oX} (h : n < 1536) : gw m 253 20 (nI n) o = o := gw_t (kk_l kk_253).1 (by decide) (by rw [(kk_l kk_253).2]; exact h) (by rw [(kk_l kk_253).2]; decide)
theorem al_253 {m : eM} : aln m 253 = 1536 := (al_t (by decide)).trans (kk_l kk_253).2
theorem kk_254 : kk 254 = (20, 3) := by decide +kernel
theorem gl_254 {o : oX} : gl 254 o = o := if_pos ⟨by rw [(kk_l kk_254).1]; decide, by rw [(kk_l kk_254).1]; decide⟩
theorem ga_254 {m : eM} {n : Nat} {o : oX} (h : n < 3) : ga m 254 20 (nI n) o = o := ga_t (kk_l kk_254).1 (by decide) (by rw [(kk_l kk_254).2]; exact h) (by rw [(kk_l kk_254).2]; decide)
theorem gw_254 {m : eM} {n : Nat} {o : oX} (h : n < 3) : gw m 254 20 (nI n) o = o := gw_t (kk_l kk_254).1 (by decide) (by rw [(kk_l kk_254).2]; exact h) (by rw [(kk_l kk_254).2]; decide)
theorem al_254 {m : eM} : aln m 254 = 3 := (al_t (by decide)).trans (kk_l kk_254).2
theorem kk_255 : kk 255 = (23, 4) := by decide +kernel
theorem gl_255 {o : oX} : gl 255 o = o := if_pos ⟨by rw [(kk_l kk_255).1]; decide, by rw [(kk_l kk_255).1]; decide⟩
theorem ga_255 {m : eM} {n : Nat} {o : oX} (h : n < 4) : ga m 255 23 (nI n) o = o := ga_t (kk_l kk_255).1 (by decide) (by rw [(kk_l kk_255).2]; exact h) (by rw [(kk_l kk_255).2]; decide)
theorem gw_255 {m : eM} {n : Nat} {o : oX} (h : n < 4) : gw m 255 23 (nI n) o = o := gw_t (kk_l kk_255).1 (by decide) (by rw [(kk_l kk_255).2]; exact h) (by rw [(kk_l kk_255).2]; decide)
theorem al_255 {m : eM} : aln m 255 = 4 := (al_t (by decide)).trans (kk_l kk_255).2
theorem kk_256 : kk 256 = (20, 1200) := by decide +kernel
theorem gl_256 {o : oX} : gl 256 o = o := if_pos ⟨by rw [(kk_l kk_256).1]; decide, by rw [(kk_l kk_256).1]; decide⟩
theorem ga_256 {m : eM} {n : Nat} {o : oX} (h : n < 1200) : ga m 256 20 (nI n) o = o := ga_t (kk_l kk_256).1 (by decide) (by rw [(kk_l kk_256).2]; exact h) (by rw [(kk_l kk_256).2]; decide)
theorem gw_256 {m : eM} {n : Nat} {o : oX} (h : n < 1200) : gw m 256 20 (nI n) o = o := gw_t (kk_l kk_256).1 (by decide) (by rw [(kk_l kk_256).2]; exact h) (by rw [(kk_l kk_256).2]; decide)
theorem al_256 {m : eM} : aln m 256 = 1200 := (al_t (by decide)).trans (kk_l kk_256).2
theorem kk_257 : kk 257 = (21, 400) := by decide +kernel
theorem gl_257 {o : oX} : gl 257 o = o := if_pos ⟨by rw [(kk_l kk_257).1]; decide, by rw [(kk_l kk_257).1]; decide⟩
theorem ga_257 {m : eM} {n : Nat} {o : oX} (h : n < 400) : ga m 257 21 (nI n) o = o := ga_t (kk_l kk_257).1 (by decide) (by rw [(kk_l kk_257).2]; exact h) (by rw [(kk_l kk_257).2]; decide)
theorem gw_257 {m : eM} {n : Nat} {o : oX} (h : n < 400) : gw m 257 21 (nI n) o = o := gw_t (kk_l kk_257).1 (by decide) (by rw [(kk_l kk_257).2]; exact h) (by rw [(kk_l kk_257).2]; decide)
theorem al_257 {m : eM} : aln m 257 = 400 := (al_t (by decide)).trans (kk_l kk_257).2
theorem kk_258 : kk 258 = (21, 1) := by decide +kernel
theorem gl_258 {o : oX} : gl 258 o = o := if_pos ⟨by rw [(kk_l kk_258).1]; decide, by rw [(kk_l kk_258).1]; decide⟩
theorem ga_258 {m : eM} {n : Nat} {o : oX} (h : n < 1) : ga m 258 21 (nI n) o = o := ga_t (kk_l kk_258).1 (by decide) (by rw [(kk_l kk_258).2]; exact h) (by rw [(kk_l kk_258).2]; decide)
theorem gw_258 {m : eM} {n : Nat} {o : oX} (h : n < 1) : gw m 258 21 (nI n) o = o := gw_t (kk_l kk_258).1 (by decide) (by rw [(kk_l kk_258).2]; exact h) (by rw [(kk_l kk_258).2]; decide)
theorem al_258 {m : eM} : aln m 258 = 1 := (al_t (by decide)).trans (kk_l kk_258).2
theorem kd_3 : kd 3 = 9 := by decide +kernel
theorem kd_4 : kd 4 = 8 := by decide +kernel
theorem kd_6 : kd 6 = 2 := by decide +kernel
theorem kd_9 : kd 9 = 6 := by decide +kernel
theorem kd_10 : kd 10 = 4 := by decide +kernel
theorem kd_22 : kd 22 = 7 := by decide +kernel
theorem kd_28 : kd 28 = 7 := by decide +kernel
theorem kd_34 : kd 34 = 3 := by decide +kernel
theorem kd_39 : kd 39 = 3 := by decide +kernel
theorem kd_46 : kd 46 = 0 := by decide +kernel
theorem kd_49 : kd 49 = 7 := by decide +kernel
theorem kd_55 : kd 55 = 1 := by decide +kernel
theorem kd_58 : kd 58 = 1 := by decide +kernel
theorem kd_61 : kd 61 = 5 := by decide +kernel
theorem kd_208 : kd 208 = 10 := by decide +kernel
def skT : List (Nat × Nat × Nat) := [(3, 0, 4), (3, 1, 6), (3, 2, 9), (3, 3, 44), (3, 4, 45), (3, 5, 46), (3, 6, 49), (3, 7, 55), (3, 8, 58), (3, 9, 61), (3, 10, 66), (3, 11, 67), (4, 0, 5), (6, 0, 7), (6, 1, 8), (9, 1, 22), (9, 2, 28), (9, 3, 34), (9, 4, 39), (10, 4, 11), (10, 5, 12), (10, 6, 13), (10, 7, 14), (10, 8, 15), (10, 9, 16), (10, 10, 17), (10, 11, 18), (10, 12, 19), (10, 13, 20), (10, 14, 21), (22, 0, 23), (22, 1, 24), (22, 2, 25), (22, 3, 26), (22, 4, 27), (28, 0, 29), (28, 1, 30), (28, 2, 31), (28, 3, 32), (28, 4, 33), (34, 0, 35), (34, 1, 36), (34, 2, 37), (34, 3, 38), (39, 0, 40), (39, 1, 41), (39, 2, 42), (39, 3, 43), (44, 0, 68), (44, 1, 103), (44, 2, 138), (44, 3, 173), (46, 0, 47), (46, 1, 48), (49, 0, 50), (49, 1, 51), (49, 2, 52), (49, 3, 53), (49, 4, 54), (55, 0, 56), (55, 1, 57), (58, 0, 59), (58, 1, 60), (61, 0, 62), (61, 1, 63), (61, 2, 64), (61, 3, 65), (68, 1, 81), (68, 2, 87), (68, 3, 93), (68, 4, 98), (69, 4, 70), (69, 5, 71), (69, 6, 72), (69, 7, 73), (69, 8, 74), (69, 9, 75), (69, 10, 76), (69, 11, 77), (69, 12, 78), (69, 13, 79), (69, 14, 80), (81, 0, 82), (81, 1, 83), (81, 2, 84), (81, 3, 85), (81, 4, 86), (87, 0, 88), (87, 1, 89), (87, 2, 90), (87, 3, 91), (87, 4, 92), (93, 0, 94), (93, 1, 95), (93, 2, 96), (93, 3, 97), (98, 0, 99), (98, 1, 100), (98, 2, 101), (98, 3, 102), (103, 1, 116), (103, 2, 122), (103, 3, 128), (103, 4, 133), (104, 4, 105), (104, 5, 106), (104, 6, 107), (104, 7, 108), (104, 8, 109), (104, 9, 110), (104, 10, 111), (104, 11, 112), (104, 12, 113), (104, 13, 114), (104, 14, 115), (116, 0, 117), (116, 1, 118), (116, 2, 119), (116, 3, 120), (116, 4, 121), (122, 0, 123), (122, 1, 124), (122, 2, 125), (122, 3, 126), (122, 4, 127), (128, 0, 129), (128, 1, 130), (128, 2, 131), (128, 3, 132), (133, 0, 134), (133, 1, 135), (133, 2, 136), (133, 3, 137), (138, 1, 151), (138, 2, 157), (138, 3, 163), (138, 4, 168), (139, 4, 140), (139, 5, 141), (139, 6, 142), (139, 7, 143), (139, 8, 144), (139, 9, 145), (139, 10, 146), (139, 11, 147), (139, 12, 148), (139, 13, 149), (139, 14, 150), (151, 0, 152), (151, 1, 153), (151, 2, 154), (151, 3, 155), (151, 4, 156), (157, 0, 158), (157, 1, 159), (157, 2, 160), (157, 3, 161), (157, 4, 162), (163, 0, 164), (163, 1, 165), (163, 2, 166), (163, 3, 167), (168, 0, 169), (168, 1, 170), (168, 2, 171), (168, 3, 172), (173, 1, 186), (173, 2, 192), (173, 3, 198), (173, 4, 203), (174, 4, 175), (174, 5, 176), (174, 6, 177), (174, 7, 178), (174, 8, 179), (174, 9, 180), (174, 10, 181), (174, 11, 182), (174, 12, 183), (174, 13, 184), (174, 14, 185), (186, 0, 187), (186, 1, 188), (186, 2, 189), (186, 3, 190), (186, 4, 191), (192, 0, 193), (192, 1, 194), (192, 2, 195), (192, 3, 196), (192, 4, 197), (198, 0, 199), (198, 1, 200), (198, 2, 201), (198, 3, 202), (203, 0, 204), (203, 1, 205), (203, 2, 206), (203, 3, 207), (208, 2, 209), (208, 10, 210), (208, 11, 211), (208, 12, 212), (208, 13, 213), (208, 14, 214), (208, 15, 215), (208, 16, 216), (208, 17, 217), (208, 18, 218), (208, 19, 219), (208, 20, 220), (208, 21, 221), (208, 22, 222), (208, 24, 223), (208, 25, 224), (208, 26, 225), (208, 27, 226), (208, 28, 227), (208, 29, 228), (208, 30, 229), (208, 31, 230), (208, 32, 231), (208, 33, 232), (208, 34, 233), (208, 35, 234), (208, 36, 235), (208, 39, 236), (208, 45, 237), (208, 46, 238), (208, 47, 239), (208, 48, 240), (208, 49, 241), (208, 51, 242), (208, 52, 243), (208, 53, 244), (208, 54, 245), (208, 55, 246), (208, 56, 247), (208, 57, 248), (208, 58, 249), (208, 59, 250), (208, 60, 251), (208, 62, 252), (208, 63, 253), (208, 64, 254), (208, 65, 255), (208, 66, 256), (208, 67, 257)]
def Sk (m : eM) : Prop := ∀ q ∈ skT, gR m q.1 q.2.1 = some q.2.2
theorem sk_g {m : eM} (hs : Sk m) {i a j b : Nat} (h : skT[i]? = some (a, j, b)) : gR m a j = some b := hs (a, j, b) (List.mem_of_getElem? h)
theorem rf_3_0 {m : eM} (hs : Sk m) : gR m 3 0 = some 4 := sk_g hs (i := 0) rfl
theorem rf_3_1 {m : eM} (hs : Sk m) : gR m 3 1 = some 6 := sk_g hs (i := 1) rfl
theorem rf_3_2 {m : eM} (hs : Sk m) : gR m 3 2 = some 9 := sk_g hs (i := 2) rfl
theorem rf_3_3 {m : eM} (hs : Sk m) : gR m 3 3 = some 44 := sk_g hs (i := 3) rfl
theorem rf_3_4 {m : eM} (hs : Sk m) : gR m 3 4 = some 45 := sk_g hs (i := 4) rfl
theorem rf_3_5 {m : eM} (hs : Sk m) : gR m 3 5 = some 46 := sk_g hs (i := 5) rfl
theorem rf_3_6 {m : eM} (hs : Sk m) : gR m 3 6 = some 49 := sk_g hs (i := 6) rfl
theorem rf_3_7 {m : eM} (hs : Sk m) : gR m 3 7 = some 55 := sk_g hs (i := 7) rfl
theorem rf_3_8 {m : eM} (hs : Sk m) : gR m 3 8 = some 58 := sk_g hs (i := 8) rfl
theorem rf_3_9 {m : eM} (hs : Sk m) : gR m 3 9 = some 61 := sk_g hs (i := 9) rfl
theorem rf_3_10 {m : eM} (hs : Sk m) : gR m 3 10 = some 66 := sk_g hs (i := 10) rfl
theorem rf_3_11 {m : eM} (hs : Sk m) : gR m 3 11 = some 67 := sk_g hs (i := 11) rfl
theorem rf_4_0 {m : eM} (hs : Sk m) : gR m 4 0 = some 5 := sk_g hs (i := 12) rfl
theorem rf_6_0 {m : eM} (hs : Sk m) : gR m 6 0 = some 7 := sk_g hs (i := 13) rfl
theorem rf_6_1 {m : eM} (hs : Sk m) : gR m 6 1 = some 8 := sk_g hs (i := 14) rfl
theorem rf_9_1 {m : eM} (hs : Sk m) : gR m 9 1 = some 22 := sk_g hs (i := 15) rfl
theorem rf_9_2 {m : eM} (hs : Sk m) : gR m 9 2 = some 28 := sk_g hs (i := 16) rfl
theorem rf_9_3 {m : eM} (hs : Sk m) : gR m 9 3 = some 34 := sk_g hs (i := 17) rfl
theorem rf_9_4 {m : eM} (hs : Sk m) : gR m 9 4 = some 39 := sk_g hs (i := 18) rfl
theorem rf_10_4 {m : eM} (hs : Sk m) : gR m 10 4 = some 11 := sk_g hs (i := 19) rfl
theorem rf_10_5 {m : eM} (hs : Sk m) : gR m 10 5 = some 12 := sk_g hs (i := 20) rfl
theorem rf_10_6 {m : eM} (hs : Sk m) : gR m 10 6 = some 13 := sk_g hs (i := 21) rfl
theorem rf_10_7 {m : eM} (hs : Sk m) : gR m 10 7 = some 14 := sk_g hs (i := 22) rfl
theorem rf_10_8 {m : eM} (hs : Sk m) : gR m 10 8 = some 15 := sk_g hs (i := 23) rfl
theorem rf_10_9 {m : eM} (hs : Sk m) : gR m 10 9 = some 16 := sk_g hs (i := 24) rfl
theorem rf_10_10 {m : eM} (hs : Sk m) : gR m 10 10 = some 17 := sk_g hs (i := 25) rfl
theorem rf_10_11 {m : eM} (hs : Sk m) : gR m 10 11 = some 18 := sk_g hs (i := 26) rfl
theorem rf_10_12 {m : eM} (hs : Sk m) : gR m 10 12 = some 19 := sk_g hs (i := 27) rfl
theorem rf_10_13 {m : eM} (hs : Sk m) : gR m 10 13 = some 20 := sk_g hs (i := 28) rfl
theorem rf_10_14 {m : eM} (hs : Sk m) : gR m 10 14 = some 21 := sk_g hs (i := 29) rfl
theorem rf_22_0 {m : eM} (hs : Sk m) : gR m 22 0 = some 23 := sk_g hs (i := 30) rfl
theorem rf_22_1 {m : eM} (hs : Sk m) : gR m 22 1 = some 24 := sk_g hs (i := 31) rfl
theorem rf_22_2 {m : eM} (hs : Sk m) : gR m 22 2 = some 25 := sk_g hs (i := 32) rfl
theorem rf_22_3 {m : eM} (hs : Sk m) : gR m 22 3 = some 26 := sk_g hs (i := 33) rfl
theorem rf_22_4 {m : eM} (hs : Sk m) : gR m 22 4 = some 27 := sk_g hs (i := 34) rfl
theorem rf_28_0 {m : eM} (hs : Sk m) : gR m 28 0 = some 29 := sk_g hs (i := 35) rfl
theorem rf_28_1 {m : eM} (hs : Sk m) : gR m 28 1 = some 30 := sk_g hs (i := 36) rfl
theorem rf_28_2 {m : eM} (hs : Sk m) : gR m 28 2 = some 31 := sk_g hs (i := 37) rfl
theorem rf_28_3 {m : eM} (hs : Sk m) : gR m 28 3 = some 32 := sk_g hs (i := 38) rfl
theorem rf_28_4 {m : eM} (hs : Sk m) : gR m 28 4 = some 33 := sk_g hs (i := 39) rfl
theorem rf_34_0 {m : eM} (hs : Sk m) : gR m 34 0 = some 35 := sk_g hs (i := 40) rfl
theorem rf_34_1 {m : eM} (hs : Sk m) : gR m 34 1 = some 36 := sk_g hs (i := 41) rfl
theorem rf_34_2 {m : eM} (hs : Sk m) : gR m 34 2 = some 37 := sk_g hs (i := 42) rfl
theorem rf_34_3 {m : eM} (hs : Sk m) : gR m 34 3 = some 38 := sk_g hs (i := 43) rfl
theorem rf_39_0 {m : eM} (hs : Sk m) : gR m 39 0 = some 40 := sk_g hs (i := 44) rfl
theorem rf_39_1 {m : eM} (hs : Sk m) : gR m 39 1 = some 41 := sk_g hs (i := 45) rfl
theorem rf_39_2 {m : eM} (hs : Sk m) : gR m 39 2 = some 42 := sk_g hs (i := 46) rfl
theorem rf_39_3 {m : eM} (hs : Sk m) : gR m 39 3 = some 43 := sk_g hs (i := 47) rfl
theorem rf_44_0 {m : eM} (hs : Sk m) : gR m 44 0 = some 68 := sk_g hs (i := 48) rfl
theorem rf_44_1 {m : eM} (hs : Sk m) : gR m 44 1 = some 103 := sk_g hs (i := 49) rfl
theorem rf_44_2 {m : eM} (hs : Sk m) : gR m 44 2 = some 138 := sk_g hs (i := 50) rfl
theorem rf_44_3 {m : eM} (hs : Sk m) : gR m 44 3 = some 173 := sk_g hs (i := 51) rfl
theorem rf_46_0 {m : eM} (hs : Sk m) : gR m 46 0 = some 47 := sk_g hs (i := 52) rfl
theorem rf_46_1 {m : eM} (hs : Sk m) : gR m 46 1 = some 48 := sk_g hs (i := 53) rfl
theorem rf_49_0 {m : eM} (hs : Sk m) : gR m 49 0 = some 50 := sk_g hs (i := 54) rfl
theorem rf_49_1 {m : eM} (hs : Sk m) : gR m 49 1 = some 51 := sk_g hs (i := 55) rfl
theorem rf_49_2 {m : eM} (hs : Sk m) : gR m 49 2 = some 52 := sk_g hs (i := 56) rfl
theorem rf_49_3 {m : eM} (hs : Sk m) : gR m 49 3 = some 53 := sk_g hs (i := 57) rfl
theorem rf_49_4 {m : eM} (hs : Sk m) : gR m 49 4 = some 54 := sk_g hs (i := 58) rfl
theorem rf_55_0 {m : eM} (hs : Sk m) : gR m 55 0 = some 56 := sk_g hs (i := 59) rfl
theorem rf_55_1 {m : eM} (hs : Sk m) : gR m 55 1 = some 57 := sk_g hs (i := 60) rfl
theorem rf_58_0 {m : eM} (hs : Sk m) : gR m 58 0 = some 59 := sk_g hs (i := 61) rfl
theorem rf_58_1 {m : eM} (hs : Sk m) : gR m 58 1 = some 60 := sk_g hs (i := 62) rfl
theorem rf_61_0 {m : eM} (hs : Sk m) : gR m 61 0 = some 62 := sk_g hs (i := 63) rfl
theorem rf_61_1 {m : eM} (hs : Sk m) : gR m 61 1 = some 63 := sk_g hs (i := 64) rfl
theorem rf_61_2 {m : eM} (hs : Sk m) : gR m 61 2 = some 64 := sk_g hs (i := 65) rfl
theorem rf_61_3 {m : eM} (hs : Sk m) : gR m 61 3 = some 65 := sk_g hs (i := 66) rfl
theorem rf_68_1 {m : eM} (hs : Sk m) : gR m 68 1 = some 81 := sk_g hs (i := 67) rfl
theorem rf_68_2 {m : eM} (hs : Sk m) : gR m 68 2 = some 87 := sk_g hs (i := 68) rfl
theorem rf_68_3 {m : eM} (hs : Sk m) : gR m 68 3 = some 93 := sk_g hs (i := 69) rfl
theorem rf_68_4 {m : eM} (hs : Sk m) : gR m 68 4 = some 98 := sk_g hs (i := 70) rfl
theorem rf_69_4 {m : eM} (hs : Sk m) : gR m 69 4 = some 70 := sk_g hs (i := 71) rfl
theorem rf_69_5 {m : eM} (hs : Sk m) : gR m 69 5 = some 71 := sk_g hs (i := 72) rfl
theorem rf_69_6 {m : eM} (hs : Sk m) : gR m 69 6 = some 72 := sk_g hs (i := 73) rfl
theorem rf_69_7 {m : eM} (hs : Sk m) : gR m 69 7 = some 73 := sk_g hs (i := 74) rfl
theorem rf_69_8 {m : eM} (hs : Sk m) : gR m 69 8 = some 74 := sk_g hs (i := 75) rfl
theorem rf_69_9 {m : eM} (hs : Sk m) : gR m 69 9 = some 75 := sk_g hs (i := 76) rfl
theorem rf_69_10 {m : eM} (hs : Sk m) : gR m 69 10 = some 76 := sk_g hs (i := 77) rfl
theorem rf_69_11 {m : eM} (hs : Sk m) : gR m 69 11 = some 77 := sk_g hs (i := 78) rfl
theorem rf_69_12 {m : eM} (hs : Sk m) : gR m 69 12 = some 78 := sk_g hs (i := 79) rfl
theorem rf_69_13 {m : eM} (hs : Sk m) : gR m 69 13 = some 79 := sk_g hs (i := 80) rfl
theorem rf_69_14 {m : eM} (hs : Sk m) : gR m 69 14 = some 80 := sk_g hs (i := 81) rfl
theorem rf_81_0 {m : eM} (hs : Sk m) : gR m 81 0 = some 82 := sk_g hs (i := 82) rfl
theorem rf_81_1 {m : eM} (hs : Sk m) : gR m 81 1 = some 83 := sk_g hs (i := 83) rfl
theorem rf_81_2 {m : eM} (hs : Sk m) : gR m 81 2 = some 84 := sk_g hs (i := 84) rfl
theorem rf_81_3 {m : eM} (hs : Sk m) : gR m 81 3 = some 85 := sk_g hs (i := 85) rfl
theorem rf_81_4 {m : eM} (hs : Sk m) : gR m 81 4 = some 86 := sk_g hs (i := 86) rfl
theorem rf_87_0 {m : eM} (hs : Sk m) : gR m 87 0 = some 88 := sk_g hs (i := 87) rfl
theorem rf_87_1 {m : eM} (hs : Sk m) : gR m 87 1 = some 89 := sk_g hs (i := 88) rfl
theorem rf_87_2 {m : eM} (hs : Sk m) : gR m 87 2 = some 90 := sk_g hs (i := 89) rfl
theorem rf_87_3 {m : eM} (hs : Sk m) : gR m 87 3 = some 91 := sk_g hs (i := 90) rfl
theorem rf_87_4 {m : eM} (hs : Sk m) : gR m 87 4 = some 92 := sk_g hs (i := 91) rfl
theorem rf_93_0 {m : eM} (hs : Sk m) : gR m 93 0 = some 94 := sk_g hs (i := 92) rfl
theorem rf_93_1 {m : eM} (hs : Sk m) : gR m 93 1 = some 95 := sk_g hs (i := 93) rfl
theorem rf_93_2 {m : eM} (hs : Sk m) : gR m 93 2 = some 96 := sk_g hs (i := 94) rfl
theorem rf_93_3 {m : eM} (hs : Sk m) : gR m 93 3 = some 97 := sk_g hs (i := 95) rfl
theorem rf_98_0 {m : eM} (hs : Sk m) : gR m 98 0 = some 99 := sk_g hs (i := 96) rfl
theorem rf_98_1 {m : eM} (hs : Sk m) : gR m 98 1 = some 100 := sk_g hs (i := 97) rfl
theorem rf_98_2 {m : eM} (hs : Sk m) : gR m 98 2 = some 101 := sk_g hs (i := 98) rfl
theorem rf_98_3 {m : eM} (hs : Sk m) : gR m 98 3 = some 102 := sk_g hs (i := 99) rfl
theorem rf_103_1 {m : eM} (hs : Sk m) : gR m 103 1 = some 116 := sk_g hs (i := 100) rfl
theorem rf_103_2 {m : eM} (hs : Sk m) : gR m 103 2 = some 122 := sk_g hs (i := 101) rfl
theorem rf_103_3 {m : eM} (hs : Sk m) : gR m 103 3 = some 128 := sk_g hs (i := 102) rfl
theorem rf_103_4 {m : eM} (hs : Sk m) : gR m 103 4 = some 133 := sk_g hs (i := 103) rfl
theorem rf_104_4 {m : eM} (hs : Sk m) : gR m 104 4 = some 105 := sk_g hs (i := 104) rfl
theorem rf_104_5 {m : eM} (hs : Sk m) : gR m 104 5 = some 106 := sk_g hs (i := 105) rfl
theorem rf_104_6 {m : eM} (hs : Sk m) : gR m 104 6 = some 107 := sk_g hs (i := 106) rfl
theorem rf_104_7 {m : eM} (hs : Sk m) : gR m 104 7 = some 108 := sk_g hs (i := 107) rfl
theorem rf_104_8 {m : eM} (hs : Sk m) : gR m 104 8 = some 109 := sk_g hs (i := 108) rfl
theorem rf_104_9 {m : eM} (hs : Sk m) : gR m 104 9 = some 110 := sk_g hs (i := 109) rfl
theorem rf_104_10 {m : eM} (hs : Sk m) : gR m 104 10 = some 111 := sk_g hs (i := 110) rfl
theorem rf_104_11 {m : eM} (hs : Sk m) : gR m 104 11 = some 112 := sk_g hs (i := 111) rfl
theorem rf_104_12 {m : eM} (hs : Sk m) : gR m 104 12 = some 113 := sk_g hs (i := 112) rfl
theorem rf_104_13 {m : eM} (hs : Sk m) : gR m 104 13 = some 114 := sk_g hs (i := 113) rfl
theorem rf_104_14 {m : eM} (hs : Sk m) : gR m 104 14 = some 115 := sk_g hs (i := 114) rfl
theorem rf_116_0 {m : eM} (hs : Sk m) : gR m 116 0 = some 117 := sk_g hs (i := 115) rfl
theorem rf_116_1 {m : eM} (hs : Sk m) : gR m 116 1 = some 118 := sk_g hs (i := 116) rfl
theorem rf_116_2 {m : eM} (hs : Sk m) : gR m 116 2 = some 119 := sk_g hs (i := 117) rfl
theorem rf_116_3 {m : eM} (hs : Sk m) : gR m 116 3 = some 120 := sk_g hs (i := 118) rfl
theorem rf_116_4 {m : eM} (hs : Sk m) : gR m 116 4 = some 121 := sk_g hs (i := 119) rfl
theorem rf_122_0 {m : eM} (hs : Sk m) : gR m 122 0 = some 123 := sk_g hs (i := 120) rfl
theorem rf_122_1 {m : eM} (hs : Sk m) : gR m 122 1 = some 124 := sk_g hs (i := 121) rfl
theorem rf_122_2 {m : eM} (hs : Sk m) : gR m 122 2 = some 125 := sk_g hs (i := 122) rfl
theorem rf_122_3 {m : eM} (hs : Sk m) : gR m 122 3 = some 126 := sk_g hs (i := 123) rfl
theorem rf_122_4 {m : eM} (hs : Sk m) : gR m 122 4 = some 127 := sk_g hs (i := 124) rfl
theorem rf_128_0 {m : eM} (hs : Sk m) : gR m 128 0 = some 129 := sk_g hs (i := 125) rfl
theorem rf_128_1 {m : eM} (hs : Sk m) : gR m 128 1 = some 130 := sk_g hs (i := 126) rfl
theorem rf_128_2 {m : eM} (hs : Sk m) : gR m 128 2 = some 131 := sk_g hs (i := 127) rfl
theorem rf_128_3 {m : eM} (hs : Sk m) : gR m 128 3 = some 132 := sk_g hs (i := 128) rfl
theorem rf_133_0 {m : eM} (hs : Sk m) : gR m 133 0 = some 134 := sk_g hs (i := 129) rfl
theorem rf_133_1 {m : eM} (hs : Sk m) : gR m 133 1 = some 135 := sk_g hs (i := 130) rfl
theorem rf_133_2 {m : eM} (hs : Sk m) : gR m 133 2 = some 136 := sk_g hs (i := 131) rfl
theorem rf_133_3 {m : eM} (hs : Sk m) : gR m 133 3 = some 137 := sk_g hs (i := 132) rfl
theorem rf_138_1 {m : eM} (hs : Sk m) : gR m 138 1 = some 151 := sk_g hs (i := 133) rfl
theorem rf_138_2 {m : eM} (hs : Sk m) : gR m 138 2 = some 157 := sk_g hs (i := 134) rfl
theorem rf_138_3 {m : eM} (hs : Sk m) : gR m 138 3 = some 163 := sk_g hs (i := 135) rfl
theorem rf_138_4 {m : eM} (hs : Sk m) : gR m 138 4 = some 168 := sk_g hs (i := 136) rfl
theorem rf_139_4 {m : eM} (hs : Sk m) : gR m 139 4 = some 140 := sk_g hs (i := 137) rfl
theorem rf_139_5 {m : eM} (hs : Sk m) : gR m 139 5 = some 141 := sk_g hs (i := 138) rfl
theorem rf_139_6 {m : eM} (hs : Sk m) : gR m 139 6 = some 142 := sk_g hs (i := 139) rfl
theorem rf_139_7 {m : eM} (hs : Sk m) : gR m 139 7 = some 143 := sk_g hs (i := 140) rfl
theorem rf_139_8 {m : eM} (hs : Sk m) : gR m 139 8 = some 144 := sk_g hs (i := 141) rfl
theorem rf_139_9 {m : eM} (hs : Sk m) : gR m 139 9 = some 145 := sk_g hs (i := 142) rfl
theorem rf_139_10 {m : eM} (hs : Sk m) : gR m 139 10 = some 146 := sk_g hs (i := 143) rfl
theorem rf_139_11 {m : eM} (hs : Sk m) : gR m 139 11 = some 147 := sk_g hs (i := 144) rfl
theorem rf_139_12 {m : eM} (hs : Sk m) : gR m 139 12 = some 148 := sk_g hs (i := 145) rfl
theorem rf_139_13 {m : eM} (hs : Sk m) : gR m 139 13 = some 149 := sk_g hs (i := 146) rfl
theorem rf_139_14 {m : eM} (hs : Sk m) : gR m 139 14 = some 150 := sk_g hs (i := 147) rfl
theorem rf_151_0 {m : eM} (hs : Sk m) : gR m 151 0 = some 152 := sk_g hs (i := 148) rfl
theorem rf_151_1 {m : eM} (hs : Sk m) : gR m 151 1 = some 153 := sk_g hs (i := 149) rfl
theorem rf_151_2 {m : eM} (hs : Sk m) : gR m 151 2 = some 154 := sk_g hs (i := 150) rfl
theorem rf_151_3 {m : eM} (hs : Sk m) : gR m 151 3 = some 155 := sk_g hs (i := 151) rfl
theorem rf_151_4 {m : eM} (hs : Sk m) : gR m 151 4 = some 156 := sk_g hs (i := 152) rfl
theorem rf_157_0 {m : eM} (hs : Sk m) : gR m 157 0 = some 158 := sk_g hs (i := 153) rfl
theorem rf_157_1 {m : eM} (hs : Sk m) : gR m 157 1 = some 159 := sk_g hs (i := 154) rfl
theorem rf_157_2 {m : eM} (hs : Sk m) : gR m 157 2 = some 160 := sk_g hs (i := 155) rfl
theorem rf_157_3 {m : eM} (hs : Sk m) : gR m 157 3 = some 161 := sk_g hs (i := 156) rfl
theorem rf_157_4 {m : eM} (hs : Sk m) : gR m 157 4 = some 162 := sk_g hs (i := 157) rfl
theorem rf_163_0 {m : eM} (hs : Sk m) : gR m 163 0 = some 164 := sk_g hs (i := 158) rfl
theorem rf_163_1 {m : eM} (hs : Sk m) : gR m 163 1 = some 165 := sk_g hs (i := 159) rfl
theorem rf_163_2 {m : eM} (hs : Sk m) : gR m 163 2 = some 166 := sk_g hs (i := 160) rfl
theorem rf_163_3 {m : eM} (hs : Sk m) : gR m 163 3 = some 167 := sk_g hs (i := 161) rfl
theorem rf_168_0 {m : eM} (hs : Sk m) : gR m 168 0 = some 169 := sk_g hs (i := 162) rfl
theorem rf_168_1 {m : eM} (hs : Sk m) : gR m 168 1 = some 170 := sk_g hs (i := 163) rfl
theorem rf_168_2 {m : eM} (hs : Sk m) : gR m 168 2 = some 171 := sk_g hs (i := 164) rfl
theorem rf_168_3 {m : eM} (hs : Sk m) : gR m 168 3 = some 172 := sk_g hs (i := 165) rfl
theorem rf_173_1 {m : eM} (hs : Sk m) : gR m 173 1 = some 186 := sk_g hs (i := 166) rfl
theorem rf_173_2 {m : eM} (hs : Sk m) : gR m 173 2 = some 192 := sk_g hs (i := 167) rfl
theorem rf_173_3 {m : eM} (hs : Sk m) : gR m 173 3 = some 198 := sk_g hs (i := 168) rfl
theorem rf_173_4 {m : eM} (hs : Sk m) : gR m 173 4 = some 203 := sk_g hs (i := 169) rfl
theorem rf_174_4 {m : eM} (hs : Sk m) : gR m 174 4 = some 175 := sk_g hs (i := 170) rfl
theorem rf_174_5 {m : eM} (hs : Sk m) : gR m 174 5 = some 176 := sk_g hs (i := 171) rfl
theorem rf_174_6 {m : eM} (hs : Sk m) : gR m 174 6 = some 177 := sk_g hs (i := 172) rfl
theorem rf_174_7 {m : eM} (hs : Sk m) : gR m 174 7 = some 178 := sk_g hs (i := 173) rfl
theorem rf_174_8 {m : eM} (hs : Sk m) : gR m 174 8 = some 179 := sk_g hs (i := 174) rfl
theorem rf_174_9 {m : eM} (hs : Sk m) : gR m 174 9 = some 180 := sk_g hs (i := 175) rfl
theorem rf_174_10 {m : eM} (hs : Sk m) : gR m 174 10 = some 181 := sk_g hs (i := 176) rfl
theorem rf_174_11 {m : eM} (hs : Sk m) : gR m 174 11 = some 182 := sk_g hs (i := 177) rfl
theorem rf_174_12 {m : eM} (hs : Sk m) : gR m 174 12 = some 183 := sk_g hs (i := 178) rfl
theorem rf_174_13 {m : eM} (hs : Sk m) : gR m 174 13 = some 184 := sk_g hs (i := 179) rfl
theorem rf_174_14 {m : eM} (hs : Sk m) : gR m 174 14 = some 185 := sk_g hs (i := 180) rfl
theorem rf_186_0 {m : eM} (hs : Sk m) : gR m 186 0 = some 187 := sk_g hs (i := 181) rfl
theorem rf_186_1 {m : eM} (hs : Sk m) : gR m 186 1 = some 188 := sk_g hs (i := 182) rfl
theorem rf_186_2 {m : eM} (hs : Sk m) : gR m 186 2 = some 189 := sk_g hs (i := 183) rfl
theorem rf_186_3 {m : eM} (hs : Sk m) : gR m 186 3 = some 190 := sk_g hs (i := 184) rfl
theorem rf_186_4 {m : eM} (hs : Sk m) : gR m 186 4 = some 191 := sk_g hs (i := 185) rfl
theorem rf_192_0 {m : eM} (hs : Sk m) : gR m 192 0 = some 193 := sk_g hs (i := 186) rfl
theorem rf_192_1 {m : eM} (hs : Sk m) : gR m 192 1 = some 194 := sk_g hs (i := 187) rfl
theorem rf_192_2 {m : eM} (hs : Sk m) : gR m 192 2 = some 195 := sk_g hs (i := 188) rfl
theorem rf_192_3 {m : eM} (hs : Sk m) : gR m 192 3 = some 196 := sk_g hs (i := 189) rfl
theorem rf_192_4 {m : eM} (hs : Sk m) : gR m 192 4 = some 197 := sk_g hs (i := 190) rfl
theorem rf_198_0 {m : eM} (hs : Sk m) : gR m 198 0 = some 199 := sk_g hs (i := 191) rfl
theorem rf_198_1 {m : eM} (hs : Sk m) : gR m 198 1 = some 200 := sk_g hs (i := 192) rfl
theorem rf_198_2 {m : eM} (hs : Sk m) : gR m 198 2 = some 201 := sk_g hs (i := 193) rfl
theorem rf_198_3 {m : eM} (hs : Sk m) : gR m 198 3 = some 202 := sk_g hs (i := 194) rfl
theorem rf_203_0 {m : eM} (hs : Sk m) : gR m 203 0 = some 204 := sk_g hs (i := 195) rfl
theorem rf_203_1 {m : eM} (hs : Sk m) : gR m 203 1 = some 205 := sk_g hs (i := 196) rfl
theorem rf_203_2 {m : eM} (hs : Sk m) : gR m 203 2 = some 206 := sk_g hs (i := 197) rfl
theorem rf_203_3 {m : eM} (hs : Sk m) : gR m 203 3 = some 207 := sk_g hs (i := 198) rfl
theorem rf_208_2 {m : eM} (hs : Sk m) : gR m 208 2 = some 209 := sk_g hs (i := 199) rfl
theorem rf_208_10 {m : eM} (hs : Sk m) : gR m 208 10 = some 210 := sk_g hs (i := 200) rfl
theorem rf_208_11 {m : eM} (hs : Sk m) : gR m 208 11 = some 211 := sk_g hs (i := 201) rfl
theorem rf_208_12 {m : eM} (hs : Sk m) : gR m 208 12 = some 212 := sk_g hs (i := 202) rfl
theorem rf_208_13 {m : eM} (hs : Sk m) : gR m 208 13 = some 213 := sk_g hs (i := 203) rfl
theorem rf_208_14 {m : eM} (hs : Sk m) : gR m 208 14 = some 214 := sk_g hs (i := 204) rfl
theorem rf_208_15 {m : eM} (hs : Sk m) : gR m 208 15 = some 215 := sk_g hs (i := 205) rfl
theorem rf_208_16 {m : eM} (hs : Sk m) : gR m 208 16 = some 216 := sk_g hs (i := 206) rfl
theorem rf_208_17 {m : eM} (hs : Sk m) : gR m 208 17 = some 217 := sk_g hs (i := 207) rfl
theorem rf_208_18 {m : eM} (hs : Sk m) : gR m 208 18 = some 218 := sk_g hs (i := 208) rfl
theorem rf_208_19 {m : eM} (hs : Sk m) : gR m 208 19 = some 219 := sk_g hs (i := 209) rfl
theorem rf_208_20 {m : eM} (hs : Sk m) : gR m 208 20 = some 220 := sk_g hs (i := 210) rfl
theorem rf_208_21 {m : eM} (hs : Sk m) : gR m 208 21 = some 221 := sk_g hs (i := 211) rfl
theorem rf_208_22 {m : eM} (hs : Sk m) : gR m 208 22 = some 222 := sk_g hs (i := 212) rfl
theorem rf_208_24 {m : eM} (hs : Sk m) : gR m 208 24 = some 223 := sk_g hs (i := 213) rfl
theorem rf_208_25 {m : eM} (hs : Sk m) : gR m 208 25 = some 224 := sk_g hs (i := 214) rfl
theorem rf_208_26 {m : eM} (hs : Sk m) : gR m 208 26 = some 225 := sk_g hs (i := 215) rfl
theorem rf_208_27 {m : eM} (hs : Sk m) : gR m 208 27 = some 226 := sk_g hs (i := 216) rfl
theorem rf_208_28 {m : eM} (hs : Sk m) : gR m 208 28 = some 227 := sk_g hs (i := 217) rfl
theorem rf_208_29 {m : eM} (hs : Sk m) : gR m 208 29 = some 228 := sk_g hs (i := 218) rfl
theorem rf_208_30 {m : eM} (hs : Sk m) : gR m 208 30 = some 229 := sk_g hs (i := 219) rfl
theorem rf_208_31 {m : eM} (hs : Sk m) : gR m 208 31 = some 230 := sk_g hs (i := 220) rfl
theorem rf_208_32 {m : eM} (hs : Sk m) : gR m 208 32 = some 231 := sk_g hs (i := 221) rfl
theorem rf_208_33 {m : eM} (hs : Sk m) : gR m 208 33 = some 232 := sk_g hs (i := 222) rfl
theorem rf_208_34 {m : eM} (hs : Sk m) : gR m 208 34 = some 233 := sk_g hs (i := 223) rfl
theorem rf_208_35 {m : eM} (hs : Sk m) : gR m 208 35 = some 234 := sk_g hs (i := 224) rfl
theorem rf_208_36 {m : eM} (hs : Sk m) : gR m 208 36 = some 235 := sk_g hs (i := 225) rfl
theorem rf_208_39 {m : eM} (hs : Sk m) : gR m 208 39 = some 236 := sk_g hs (i := 226) rfl
theorem rf_208_45 {m : eM} (hs : Sk m) : gR m 208 45 = some 237 := sk_g hs (i := 227) rfl
theorem rf_208_46 {m : eM} (hs : Sk m) : gR m 208 46 = some 238 := sk_g hs (i := 228) rfl
theorem rf_208_47 {m : eM} (hs : Sk m) : gR m 208 47 = some 239 := sk_g hs (i := 229) rfl
theorem rf_208_48 {m : eM} (hs : Sk m) : gR m 208 48 = some 240 := sk_g hs (i := 230) rfl
theorem rf_208_49 {m : eM} (hs : Sk m) : gR m 208 49 = some 241 := sk_g hs (i := 231) rfl
theorem rf_208_51 {m : eM} (hs : Sk m) : gR m 208 51 = some 242 := sk_g hs (i := 232) rfl
theorem rf_208_52 {m : eM} (hs : Sk m) : gR m 208 52 = some 243 := sk_g hs (i := 233) rfl
theorem rf_208_53 {m : eM} (hs : Sk m) : gR m 208 53 = some 244 := sk_g hs (i := 234) rfl
theorem rf_208_54 {m : eM} (hs : Sk m) : gR m 208 54 = some 245 := sk_g hs (i := 235) rfl
theorem rf_208_55 {m : eM} (hs : Sk m) : gR m 208 55 = some 246 := sk_g hs (i := 236) rfl
theorem rf_208_56 {m : eM} (hs : Sk m) : gR m 208 56 = some 247 := sk_g hs (i := 237) rfl
theorem rf_208_57 {m : eM} (hs : Sk m) : gR m 208 57 = some 248 := sk_g hs (i := 238) rfl
theorem rf_208_58 {m : eM} (hs : Sk m) : gR m 208 58 = some 249 := sk_g hs (i := 239) rfl
theorem rf_208_59 {m : eM} (hs : Sk m) : gR m 208 59 = some 250 := sk_g hs (i := 240) rfl
theorem rf_208_60 {m : eM} (hs : Sk m) : gR m 208 60 = some 251 := sk_g hs (i := 241) rfl
theorem rf_208_62 {m : eM} (hs : Sk m) : gR m 208 62 = some 252 := sk_g hs (i := 242) rfl
theorem rf_208_63 {m : eM} (hs : Sk m) : gR m 208 63 = some 253 := sk_g hs (i := 243) rfl
theorem rf_208_64 {m : eM} (hs : Sk m) : gR m 208 64 = some 254 := sk_g hs (i := 244) rfl
theorem rf_208_65 {m : eM} (hs : Sk m) : gR m 208 65 = some 255 := sk_g hs (i := 245) rfl
theorem rf_208_66 {m : eM} (hs : Sk m) : gR m 208 66 = some 256 := sk_g hs (i := 246) rfl
theorem rf_208_67 {m : eM} (hs : Sk m) : gR m 208 67 = some 257 := sk_g hs (i := 247) rfl
/-- states, talks, looks, parishes by their first cell -/
def stS (s : Nat) : Bool := s == 9 || s == 68 || s == 103 || s == 138 || s == 173
