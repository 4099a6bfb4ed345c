/-! ===== the reference's marks ===== -/
def rw_ (a i : Nat) : Nat → List (Nat × Nat)
  | 0 => []
  | k + 1 => (a, i) :: rw_ a (i + 1) k
theorem rw_l (a i : Nat) : ∀ k, (rw_ a i k).length = k
  | 0 => rfl
  | k + 1 => congrArg Nat.succ (rw_l a (i + 1) k)
theorem rw_i {a : Nat} {c : Nat × Nat} : ∀ {k i}, c ∈ rw_ a i k → c.1 = a
  | 0, i, h => by cases h
  | k + 1, i, h => by
    rcases List.mem_cons.mp h with h | h
    · rw [h]
    · exact rw_i h
/-- one cell is kept (false) or got back (true) at place b -/
def kp1 (B : Bool) (c : Nat × Nat) (b : Nat) (m : eM) : eM := if B = true then sI (sI m 208 68 (nI (b + 1))) c.1 c.2 (gI m 256 b) else sI (sI (sI m 208 68 (nI (b + 1))) 256 b (gI m c.1 c.2)) c.1 c.2 (gI m c.1 c.2)
def kp (B : Bool) : List (Nat × Nat) → Nat → eM → eM
  | [], _, m => m
  | c :: l, b, m => kp B l (b + 1) (kp1 B c b m)
theorem kp_app (B : Bool) : ∀ s t b m, kp B (s ++ t) b m = kp B t (b + s.length) (kp B s b m)
  | [], t, b, m => rfl
  | c :: s, t, b, m => by
    have := kp_app B s t (b + 1) (kp1 B c b m)
    rw [show b + (c :: s).length = b + 1 + s.length from by rw [List.length_cons]; omega]
    exact this
/-- a cell that may be kept -/
def okC (c : Nat × Nat) : Prop := c.1 ≠ 256 ∧ ¬ (c.1 = 208 ∧ c.2 = 68)
theorem kp1_c {B : Bool} {c : Nat × Nat} (h : okC c) (b : Nat) (m : eM) : gI (kp1 B c b m) 208 68 = nI (b + 1) := by
  have h2 := h.2
  cases B
  · show gI (sI (sI (sI m 208 68 (nI (b + 1))) 256 b (gI m c.1 c.2)) c.1 c.2 (gI m c.1 c.2)) 208 68 = _
    rw [gI_sI, if_neg (by omega), gI_sI, if_neg (by omega), gI_w]
  · show gI (sI (sI m 208 68 (nI (b + 1))) c.1 c.2 (gI m 256 b)) 208 68 = _
    rw [gI_sI, if_neg (by omega), gI_w]
theorem kp1_k {B : Bool} {c : Nat × Nat} {b : Nat} {m : eM} (hs : Sk m) : Sk (kp1 B c b m) := by
  cases B
  · exact hs
  · exact hs
theorem kp_k {B : Bool} : ∀ {l b m}, Sk m → Sk (kp B l b m)
  | [], b, m, hs => hs
  | c :: l, b, m, hs => kp_k (l := l) (kp1_k hs)
theorem kp_c {B : Bool} : ∀ {l : List (Nat × Nat)} {b m}, (∀ c ∈ l, okC c) → gI m 208 68 = nI b → gI (kp B l b m) 208 68 = nI (b + l.length)
  | [], b, m, _, h => h
  | c :: l, b, m, hl, h => by
    have := kp_c (B := B) (l := l) (b := b + 1) (m := kp1 B c b m) (fun x hx => hl x (List.mem_cons_of_mem _ hx)) (kp1_c (hl c List.mem_cons_self) b m)
    rw [show b + (c :: l).length = b + 1 + l.length from by rw [List.length_cons]; omega]
    exact this
/-- a write of what stands there -/
theorem Fr.same {S : Nat → Nat → Bool} {m m' : eM} (h : Fr S m m') {a j : Nat} {x : Int32} (e : x = gI m' a j) : Fr S m (sI m' a j x) := ⟨fun b k z => by
  rw [gI_sI]
  by_cases y : b = a ∧ k = j
  · rw [if_pos y, e, ← y.1, ← y.2]; exact h.1 b k z
  · rw [if_neg y]; exact h.1 b k z, fun b k z => h.2.1 b k z, h.2.2⟩
theorem kp1_0 {c : Nat × Nat} (h : okC c) (b : Nat) (m : eM) : Fr (fun a j => (a == 256 && j == b) || (a == 208 && j == 68)) m (kp1 false c b m) := by
  have h2 := h.2
  have f : Fr (fun a j => (a == 256 && j == b) || (a == 208 && j == 68)) m (sI (sI m 208 68 (nI (b + 1))) 256 b (gI m c.1 c.2)) := (Fr.rfl'.i (by simp)).i (by simp)
  refine f.same ?_
  rw [gI_sI, if_neg (fun e => h.1 e.1), gI_sI, if_neg h2]
/-- kept: what the places hold, and nothing else has changed -/
theorem kp_0 : ∀ (l : List (Nat × Nat)) b m, (∀ c ∈ l, okC c) → Fr (fun a j => (a == 256 && (decide (b ≤ j) && decide (j < b + l.length))) || (a == 208 && j == 68)) m (kp false l b m) ∧ ∀ i c, l[i]? = some c → gI (kp false l b m) 256 (b + i) = gI m c.1 c.2
  | [], b, m, _ => ⟨Fr.rfl', fun i c h => by cases h⟩
  | c :: l, b, m, hl => by
    obtain ⟨f2, h2⟩ := kp_0 l (b + 1) (kp1 false c b m) fun x hx => hl x (List.mem_cons_of_mem _ hx)
    have hc := hl c List.mem_cons_self
    have f1 := kp1_0 hc b m
    refine ⟨(f1.up fun a j q => ?_).tr (f2.up fun a j q => ?_), fun i x hx => ?_⟩
    · rw [List.length_cons] at q
      by_cases y : a = 256
      · subst y
        have q : (decide (b ≤ j) && decide (j < b + (l.length + 1)) || false) = false := q
        simp at q
        have : ¬ j = b := by omega
        simp [this]
      · by_cases y2 : a = 208
        · subst y2
          have q : (false || (true && j == 68)) = false := q
          simp at q
          simp [q]
        · simp [y, y2]
    · rw [List.length_cons] at q
      by_cases y : a = 256
      · subst y
        have q : (decide (b ≤ j) && decide (j < b + (l.length + 1)) || false) = false := q
        simp at q
        simp
        omega
      · by_cases y2 : a = 208
        · subst y2
          have q : (false || (true && j == 68)) = false := q
          simp at q
          simp [q]
        · simp [y, y2]
    · cases i with
      | zero =>
        rw [List.getElem?_cons_zero] at hx
        injection hx with hx
        subst hx
        have e := f2.1 256 b (by simp; omega)
        rw [Nat.add_zero]
        refine e.trans ?_
        show gI (sI (sI (sI m 208 68 (nI (b + 1))) 256 b (gI m c.1 c.2)) c.1 c.2 (gI m c.1 c.2)) 256 b = _
        rw [gI_sI, if_neg (fun e => hc.1 e.1.symm), gI_w]
      | succ i =>
        rw [List.getElem?_cons_succ] at hx
        have hx' := hl x (List.mem_cons_of_mem _ (List.mem_of_getElem? hx))
        have e := h2 i x hx
        rw [show b + (i + 1) = b + 1 + i by omega]
        refine e.trans (f1.1 _ _ ?_)
        have a1 := hx'.1
        have a2 := hx'.2
        simp
        exact ⟨fun q => absurd q a1, fun q q2 => a2 ⟨q, q2⟩⟩
/-- got back -/
theorem kp_1 : ∀ (l : List (Nat × Nat)) b m, (∀ c ∈ l, okC c) → l.Nodup → Fr (fun a j => decide ((a, j) ∈ l) || (a == 208 && j == 68)) m (kp true l b m) ∧ ∀ i c, l[i]? = some c → gI (kp true l b m) c.1 c.2 = gI m 256 (b + i)
  | [], b, m, _, _ => ⟨Fr.rfl', fun i c h => by cases h⟩
  | c :: l, b, m, hl, hn => by
    have hn' := List.nodup_cons.mp hn
    obtain ⟨f2, h2⟩ := kp_1 l (b + 1) (kp1 true c b m) (fun x hx => hl x (List.mem_cons_of_mem _ hx)) hn'.2
    have hc := hl c List.mem_cons_self
    have f1 : Fr (fun a j => (a == c.1 && j == c.2) || (a == 208 && j == 68)) m (kp1 true c b m) := (Fr.rfl'.i (by simp)).i (by simp)
    refine ⟨(f1.up fun a j q => ?_).tr (f2.up fun a j q => ?_), fun i x hx => ?_⟩
    · rw [Bool.or_eq_false_iff, decide_eq_false_iff_not] at q
      obtain ⟨q1, q2⟩ := q
      rw [Bool.or_eq_false_iff]
      refine ⟨?_, q2⟩
      have : ¬ (a = c.1 ∧ j = c.2) := fun e => q1 (List.mem_cons.mpr (Or.inl (Prod.ext e.1 e.2)))
      simp
      exact fun e e2 => this ⟨e, e2⟩
    · rw [Bool.or_eq_false_iff, decide_eq_false_iff_not] at q ⊢
      exact ⟨fun e => q.1 (List.mem_cons_of_mem _ e), q.2⟩
    · cases i with
      | zero =>
        rw [List.getElem?_cons_zero] at hx
        injection hx with hx
        subst hx
        have e := f2.1 c.1 c.2 (by
          rw [Bool.or_eq_false_iff, decide_eq_false_iff_not]
          refine ⟨hn'.1, ?_⟩
          have a2 := hc.2
          simp
          exact fun e e2 => a2 ⟨e, e2⟩)
        rw [Nat.add_zero]
        refine e.trans ?_
        show gI (sI (sI m 208 68 (nI (b + 1))) c.1 c.2 (gI m 256 b)) c.1 c.2 = _
        rw [gI_w]
      | succ i =>
        rw [List.getElem?_cons_succ] at hx
        have e := h2 i x hx
        rw [show b + (i + 1) = b + 1 + i by omega]
        refine e.trans (f1.1 _ _ ?_)
        have a1 := hc.1
        simp
        exact fun q => absurd q.symm a1
/-! the code of it -/
theorem Mo_keeps_s {m : eM} (hs : Sk m) (d : Nat) (x : Int32) (B : Bool) {b : Nat} (hb : gI m 208 68 = nI b) (h : b < 1200) : Mo_keeps d 208 x (bb B) m = yI (if B = true then gI m 256 b else x) (if B = true then sI m 208 68 (nI (b + 1)) else sI (sI m 208 68 (nI (b + 1))) 256 b x) := by
  have hs1 : Sk (sI m 208 68 (nI (b + 1))) := hs
  rw [Mo_keeps_e _ _ _ _ _ kd_208, hb, mI_u, nI_1, rf_208_66 hs1, bR_s]
  cases B
  · rw [if_pos (show bb false = 0 from rfl), gw_256 h, mI_u, n_cl (by omega)]; rfl
  · rw [if_neg (by decide), bR_s, ga_256 h, n_cl (by omega)]; rfl
theorem Mo_keepsRow_3_s (d : Nat) {a L : Nat} (hk : kk a = (20, L)) (ha : 208 < a) (ha2 : a ≠ 256) (hL : L ≤ 100000) {n : Nat} (hn : n ≤ L) (B : Bool) : ∀ k i b m, i + k = n → Sk m → gI m 208 68 = nI b → b + k ≤ 1200 → Mo_keepsRow_3 (d + 1) 208 a (nI n) (bb B) (nI i) m = yV (kp B (rw_ a i k) b m)
  | 0, i, b, m, e, hs, hb, h => by
    rw [Mo_keepsRow_3_e _ _ _ _ _ _ _ kd_208, if_pos (by rw [n_le (by omega) (by omega)]; omega)]
    rfl
  | k + 1, i, b, m, e, hs, hb, h => by
    have hc : okC (a, i) := ⟨ha2, fun q => by have := q.1; omega⟩
    rw [Mo_keepsRow_3_e _ _ _ _ _ _ _ kd_208, if_neg (by rw [n_le (by omega) (by omega)]; omega), ga_t (kk_l hk).1 (by omega) (by rw [(kk_l hk).2]; omega) (by rw [(kk_l hk).2]; omega), n_cl (by omega), Mo_keeps_s hs _ _ B hb (by omega), bI_y, gw_t (kk_l hk).1 (by omega) (by rw [(kk_l hk).2]; omega) (by rw [(kk_l hk).2]; omega), mI_u, nI_1]
    have e1 : sI (if B = true then sI m 208 68 (nI (b + 1)) else sI (sI m 208 68 (nI (b + 1))) 256 b (gI m a i)) a i (if B = true then gI m 256 b else gI m a i) = kp1 B (a, i) b m := by
      cases B <;> rfl
    rw [e1]
    exact Mo_keepsRow_3_s d hk ha ha2 hL hn B k (i + 1) (b + 1) _ (by omega) (kp1_k hs) (kp1_c hc b m) (by omega)
theorem Mo_keepsRow_s {D : Nat} (hD : 1 ≤ D) {a L : Nat} (hk : kk a = (20, L)) (ha : 208 < a) (ha2 : a ≠ 256) (hL : L ≤ 100000) {n : Nat} (hn : n ≤ L) (B : Bool) {b : Nat} {m : eM} (hs : Sk m) (hb : gI m 208 68 = nI b) (h : b + n ≤ 1200) : Mo_keepsRow D 208 a (nI n) (bb B) m = yV (kp B (rw_ a 0 n) b m) := by
  obtain ⟨d, rfl⟩ : ∃ d, D = d + 1 := ⟨D - 1, by omega⟩
  rw [Mo_keepsRow_e _ _ _ _ _ _ kd_208]
  exact Mo_keepsRow_3_s d hk ha ha2 hL hn B n 0 b m (Nat.zero_add _) hs hb h
/-- one field -/
theorem Mo_keeps_f {m : eM} (hs : Sk m) (d : Nat) (j : Nat) (B : Bool) {b : Nat} (hb : gI m 208 68 = nI b) (h : b < 1200) (k : eM → oX) : (bI (Mo_keeps d 208 (gI m 208 j) (bb B) m) fun x m1 => mI m1 208 j x k) = k (kp B [(208, j)] b m) := by
  rw [Mo_keeps_s hs _ _ B hb h, bI_y, mI_u]
  cases B <;> rfl
/-- one flag -/
theorem keeps_b {m : eM} (hs : Sk m) (d : Nat) (a j : Nat) (B : Bool) {b : Nat} (hb : gI m 208 68 = nI b) (h : b < 1200) (h0 : B = false → gI m a j = 0 ∨ gI m a j = 1) (h1 : B = true → gI m 256 b = 0 ∨ gI m 256 b = 1) (k : eM → oX) : (if gI m a j = 0 then (bI (Mo_keeps d 208 0 (bb B) m) fun x m1 => if ¬ x = 1 then k (sI m1 a j ((0 : Int32) &&& 1)) else k (sI m1 a j ((1 : Int32) &&& 1))) else (bI (Mo_keeps d 208 1 (bb B) m) fun x m1 => if ¬ x = 1 then k (sI m1 a j ((0 : Int32) &&& 1)) else k (sI m1 a j ((1 : Int32) &&& 1)))) = k (kp B [(a, j)] b m) := by
  rw [Mo_keeps_s hs _ _ B hb h, Mo_keeps_s hs _ _ B hb h, bI_y, bI_y]
  cases B with
  | false =>
    show (if gI m a j = 0 then (if ¬ (0 : Int32) = 1 then k (sI (sI (sI m 208 68 (nI (b + 1))) 256 b 0) a j ((0 : Int32) &&& 1)) else k (sI (sI (sI m 208 68 (nI (b + 1))) 256 b 0) a j ((1 : Int32) &&& 1))) else (if ¬ (1 : Int32) = 1 then k (sI (sI (sI m 208 68 (nI (b + 1))) 256 b 1) a j ((0 : Int32) &&& 1)) else k (sI (sI (sI m 208 68 (nI (b + 1))) 256 b 1) a j ((1 : Int32) &&& 1)))) = k (sI (sI (sI m 208 68 (nI (b + 1))) 256 b (gI m a j)) a j (gI m a j))
    rcases h0 rfl with z | z
    · rw [if_pos z, if_pos (show ¬ (0 : Int32) = 1 by decide), z]; rfl
    · rw [if_neg (by rw [z]; decide), if_neg (show ¬ ¬ (1 : Int32) = 1 by decide), z]; rfl
  | true =>
    have e : (if ¬ gI m 256 b = 1 then k (sI (sI m 208 68 (nI (b + 1))) a j ((0 : Int32) &&& 1)) else k (sI (sI m 208 68 (nI (b + 1))) a j ((1 : Int32) &&& 1))) = k (sI (sI m 208 68 (nI (b + 1))) a j (gI m 256 b)) := by
      rcases h1 rfl with z | z
      · rw [z, if_pos (by decide)]; rfl
      · rw [z, if_neg (by decide)]; rfl
    show (if gI m a j = 0 then (if ¬ gI m 256 b = 1 then k (sI (sI m 208 68 (nI (b + 1))) a j ((0 : Int32) &&& 1)) else k (sI (sI m 208 68 (nI (b + 1))) a j ((1 : Int32) &&& 1))) else (if ¬ gI m 256 b = 1 then k (sI (sI m 208 68 (nI (b + 1))) a j ((0 : Int32) &&& 1)) else k (sI (sI m 208 68 (nI (b + 1))) a j ((1 : Int32) &&& 1)))) = k (sI (sI m 208 68 (nI (b + 1))) a j (gI m 256 b))
    rw [e]
    by_cases z : gI m a j = 0
    · rw [if_pos z]
    · rw [if_neg z]
/-! longs -/
def kq1 (B : Bool) (a i b : Nat) (m : eM) : eM := if B = true then sL m a i (gL m 257 b) else sL m 257 b (gL m a i)
def kq (B : Bool) (a : Nat) : Nat → Nat → Nat → eM → eM
  | 0, _, _, m => m
  | k + 1, i, b, m => kq B a k (i + 1) (b + 1) (kq1 B a i b m)
theorem kq1_k {B : Bool} {a i b : Nat} {m : eM} (hs : Sk m) : Sk (kq1 B a i b m) := by
  cases B
  · exact hs
  · exact hs
theorem kq_k {B : Bool} {a : Nat} : ∀ {k i b m}, Sk m → Sk (kq B a k i b m)
  | 0, i, b, m, hs => hs
  | k + 1, i, b, m, hs => kq_k (k := k) (kq1_k hs)
theorem Mo_keepsLongs_3_s (d : Nat) {a L : Nat} (hk : kk a = (21, L)) (ha : 208 < a) (hL : L ≤ 100000) {n : Nat} (hn : n ≤ L) (B : Bool) {b : Nat} (hb : b + n ≤ 400) : ∀ k i m, i + k = n → Sk m → Mo_keepsLongs_3 d 208 a (nI n) (nI b) (bb B) (nI i) m = yV (kq B a k i (b + i) m)
  | 0, i, m, e, hs => by
    rw [Mo_keepsLongs_3_e _ _ _ _ _ _ _ _ kd_208, if_pos (by rw [n_le (by omega) (by omega)]; omega)]
    rfl
  | k + 1, i, m, e, hs => by
    have ih := Mo_keepsLongs_3_s d hk ha hL hn B hb k (i + 1) (kq1 B a i (b + i) m) (by omega) (kq1_k hs)
    show _ = yV (kq B a k (i + 1) (b + (i + 1)) (kq1 B a i (b + i) m))
    rw [← ih, Mo_keepsLongs_3_e _ _ _ _ _ _ _ _ kd_208, if_neg (by rw [n_le (by omega) (by omega)]; omega), rf_208_67 hs, bR_s, bR_s, nI_add, nI_1]
    cases B
    · rw [if_pos (show bb false = 0 from rfl), ga_t (kk_l hk).1 (by omega) (by rw [(kk_l hk).2]; omega) (by rw [(kk_l hk).2]; omega), gw_257 (by omega), mJ_u, n_cl (by omega), n_cl (by omega)]
      rfl
    · rw [if_neg (by decide), ga_257 (by omega), gw_t (kk_l hk).1 (by omega) (by rw [(kk_l hk).2]; omega) (by rw [(kk_l hk).2]; omega), mJ_u, n_cl (by omega), n_cl (by omega)]
      rfl
theorem Mo_keepsLongs_s (d : Nat) {a L : Nat} (hk : kk a = (21, L)) (ha : 208 < a) (hL : L ≤ 100000) {n : Nat} (hn : n ≤ L) (B : Bool) {b : Nat} (hb : b + n ≤ 400) {m : eM} (hs : Sk m) : Mo_keepsLongs d 208 a (nI n) (nI b) (bb B) m = yV (kq B a n 0 b m) := by
  rw [Mo_keepsLongs_e _ _ _ _ _ _ _ kd_208]
  exact Mo_keepsLongs_3_s d hk ha hL hn B hb n 0 m (Nat.zero_add _) hs
theorem kq_0 {a : Nat} (ha : a ≠ 257) : ∀ k i b m, Fr (fun a j => a == 257 && (decide (b ≤ j) && decide (j < b + k))) m (kq false a k i b m) ∧ ∀ x, x < k → gL (kq false a k i b m) 257 (b + x) = gL m a (i + x)
  | 0, i, b, m => ⟨Fr.rfl', fun x hx => absurd hx (Nat.not_lt_zero _)⟩
  | k + 1, i, b, m => by
    obtain ⟨f2, h2⟩ := kq_0 ha k (i + 1) (b + 1) (kq1 false a i b m)
    have f1 : Fr (fun a j => a == 257 && j == b) m (kq1 false a i b m) := Fr.rfl'.l (by simp)
    refine ⟨(f1.up fun a j q => ?_).tr (f2.up fun a j q => ?_), fun x hx => ?_⟩
    · by_cases y : a = 257
      · subst y
        have q : (decide (b ≤ j) && decide (j < b + (k + 1))) = false := q
        simp at q
        simp
        omega
      · simp [y]
    · by_cases y : a = 257
      · subst y
        have q : (decide (b ≤ j) && decide (j < b + (k + 1))) = false := q
        simp at q
        simp
        omega
      · simp [y]
    · cases x with
      | zero => exact (f2.2.1 257 b (by simp; omega)).trans (gL_w _ _ _ _)
      | succ x =>
        rw [show b + (x + 1) = b + 1 + x by omega, show i + (x + 1) = i + 1 + x by omega]
        exact (h2 x (by omega)).trans (f1.2.1 _ _ (by simp [ha]))
theorem kq_1 {a : Nat} (ha : a ≠ 257) : ∀ k i b m, Fr (fun c j => c == a && (decide (i ≤ j) && decide (j < i + k))) m (kq true a k i b m) ∧ ∀ x, x < k → gL (kq true a k i b m) a (i + x) = gL m 257 (b + x)
  | 0, i, b, m => ⟨Fr.rfl', fun x hx => absurd hx (Nat.not_lt_zero _)⟩
  | k + 1, i, b, m => by
    obtain ⟨f2, h2⟩ := kq_1 ha k (i + 1) (b + 1) (kq1 true a i b m)
    have f1 : Fr (fun c j => c == a && j == i) m (kq1 true a i b m) := Fr.rfl'.l (by simp)
    refine ⟨(f1.up fun c j q => ?_).tr (f2.up fun c j q => ?_), fun x hx => ?_⟩
    · by_cases y : c = a
      · subst y
        simp at q
        simp
        omega
      · simp [y]
    · by_cases y : c = a
      · subst y
        simp at q
        simp
        omega
      · simp [y]
    · cases x with
      | zero => exact (f2.2.1 a i (by simp; omega)).trans (gL_w _ _ _ _)
      | succ x =>
        rw [show b + (x + 1) = b + 1 + x by omega, show i + (x + 1) = i + 1 + x by omega]
        exact (h2 x (by omega)).trans (f1.2.1 _ _ (by simp; exact fun q => absurd q.symm ha))
