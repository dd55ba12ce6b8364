-- steps taken back, one after another
def und : Nat → (Nat → Int) → (Nat → Int)
  | 0, a => a
  | j + 1, a => und j (undoA a)
def EQ (n : Nat) (a b : Nat → Int) : Prop := (∀ k : Nat, k < 11 → k ≠ 4 → a k = b k) ∧ (∀ l : Nat, (l : Int) < b 0 → ∀ w : Nat, w < 5 → a (11 + 5 * l + w) = b (11 + 5 * l + w)) ∧ (∀ q : Nat, (q : Int) < b 1 → ∀ w : Nat, w < 14 → a (71 + 14 * q + w) = b (71 + 14 * q + w)) ∧ (∀ i : Nat, i < 60 → a (4843 + i) = b (4843 + i)) ∧ ((n : Int) ≤ a 4 ∧ (n : Int) ≤ b 4) ∧ ∀ i : Nat, i < n → ∀ q : Nat, q < 155 → a (193 + 155 * ((a 4).toNat - 1 - i) + q) = b (193 + 155 * ((b 4).toNat - 1 - i) + q)
theorem EQ_tr {n : Nat} {a b c : Nat → Int} (h1 : EQ n a b) (h2 : EQ n b c) : EQ n a c := by
  obtain ⟨p1, p2, p3, p4, p5, p6⟩ := h1
  obtain ⟨q1, q2, q3, q4, q5, q6⟩ := h2
  refine ⟨fun k h h4 => (p1 k h h4).trans (q1 k h h4), fun l hl w hw => (p2 l (by rw [q1 0 (by decide) (by decide)]; exact hl) w hw).trans (q2 l hl w hw), fun l hl w hw => (p3 l (by rw [q1 1 (by decide) (by decide)]; exact hl) w hw).trans (q3 l hl w hw), fun i hi => (p4 i hi).trans (q4 i hi), ⟨p5.1, q5.2⟩, fun i hi q hq => (p6 i hi q hq).trans (q6 i hi q hq)⟩
theorem EQ_mono {n k : Nat} {a b : Nat → Int} (h : EQ n a b) (hk : k ≤ n) : EQ k a b := by
  obtain ⟨p1, p2, p3, p4, p5, p6⟩ := h
  exact ⟨p1, p2, p3, p4, ⟨by omega, by omega⟩, fun i hi q hq => p6 i (by omega) q hq⟩
theorem undoA_4 (a : Nat → Int) : undoA a 4 = a 4 - 1 := by
  unfold undoA
  rw [if_pos rfl]
theorem EQ_undo {n : Nat} {a b : Nat → Int} (h : EQ (n + 1) a b) (h0 : b 0 ≤ 12) (h1 : b 1 ≤ 5) (ha : a 4 ≤ 30) (hb : b 4 ≤ 30) : EQ n (undoA a) (undoA b) := by
  obtain ⟨p1, p2, p3, p4, p5, p6⟩ := h
  have row : ∀ q : Nat, q < 155 → a (undX a + q) = b (undX b + q) := fun q hq => by
    have := p6 0 (by omega) q hq
    unfold undX
    rw [show (a 4 - 1).toNat = (a 4).toNat - 1 - 0 by omega, show (b 4 - 1).toNat = (b 4).toNat - 1 - 0 by omega]
    exact this
  have e0 : a 0 = b 0 := p1 0 (by decide) (by decide)
  have e1 : a 1 = b 1 := p1 1 (by decide) (by decide)
  refine ⟨fun k h h4 => ?_, fun l hl w hw => ?_, fun q hq w hw => ?_, fun i hi => ?_, ⟨?_, ?_⟩, fun i hi q hq => ?_⟩
  · by_cases h7 : k < 7
    · rw [undoA_pl a (by omega), undoA_pl b (by omega)]
      exact p1 k h h4
    · obtain ⟨j, rfl⟩ : ∃ j, k = 7 + j := ⟨k - 7, by omega⟩
      rw [undoA_7 a (by omega), undoA_7 b (by omega), show undX a + 2 + j = undX a + (2 + j) by omega, show undX b + 2 + j = undX b + (2 + j) by omega]
      exact row _ (by omega)
  · rw [undoA_pl b (by omega)] at hl
    have hr0 := row 0 (by omega)
    rw [Nat.add_zero, Nat.add_zero] at hr0
    rw [undoA_l a (by omega) hw, undoA_l b (by omega) hw, e0, hr0, p2 l hl w hw, p2 l hl 4 (by omega), show undX a + 6 + 2 * l = undX a + (6 + 2 * l) by omega, show undX a + 7 + 2 * l = undX a + (7 + 2 * l) by omega, row (6 + 2 * l) (by omega), row (7 + 2 * l) (by omega), show undX b + 6 + 2 * l = undX b + (6 + 2 * l) by omega, show undX b + 7 + 2 * l = undX b + (7 + 2 * l) by omega]
  · rw [undoA_pl b (by omega)] at hq
    rw [undoA_b a (by omega) hw, undoA_b b (by omega) hw, e1, row 1 (by omega), p3 q hq w hw, p3 q hq 13 (by omega)]
    by_cases hw13 : w < 13
    · rw [if_pos hw13, if_pos hw13, show undX a + 30 + 13 * q + w = undX a + (30 + 13 * q + w) by omega, row (30 + 13 * q + w) (by omega), show undX b + 30 + 13 * q + w = undX b + (30 + 13 * q + w) by omega]
    · rw [if_neg hw13, if_neg hw13]
  · rw [undoA_k a hi, undoA_k b hi, show undX a + 95 + i = undX a + (95 + i) by omega, row (95 + i) (by omega), show undX b + 95 + i = undX b + (95 + i) by omega]
  · rw [undoA_4]; omega
  · rw [undoA_4]; omega
  · rw [undoA_4, undoA_4, undoA_pl a (by omega), undoA_pl b (by omega)]
    have := p6 (i + 1) (by omega) q hq
    rw [show (a 4 - 1).toNat - 1 - i = (a 4).toNat - 1 - (i + 1) by omega, show (b 4 - 1).toNat - 1 - i = (b 4).toNat - 1 - (i + 1) by omega]
    exact this
theorem und_lo (j : Nat) : ∀ (a : Nat → Int) {k : Nat}, (k < 4 ∨ (4 < k ∧ k < 7) ∨ (141 ≤ k ∧ k < 4843)) → und j a k = a k := by
  induction j with
  | zero => intro a k _; rfl
  | succ j ih =>
    intro a k h
    show und j (undoA a) k = _
    rw [ih _ h, undoA_pl a (by omega)]
theorem und_4 (j : Nat) : ∀ (a : Nat → Int), und j a 4 = a 4 - j := by
  induction j with
  | zero => intro a; show a 4 = a 4 - ((0 : Nat) : Int); omega
  | succ j ih =>
    intro a
    show und j (undoA a) 4 = _
    rw [ih, undoA_4]
    omega
theorem EQ_und (j : Nat) : ∀ {n : Nat} {a b : Nat → Int}, EQ (n + j) a b → b 0 ≤ 12 → b 1 ≤ 5 → a 4 ≤ 30 → b 4 ≤ 30 → EQ n (und j a) (und j b) := by
  induction j with
  | zero => intro n a b h _ _ _ _; exact h
  | succ j ih =>
    intro n a b h h0 h1 ha hb
    show EQ n (und j (undoA a)) (und j (undoA b))
    refine ih (EQ_undo (n := n + j) h h0 h1 ha hb) ?_ ?_ ?_ ?_
    · rw [undoA_pl b (by omega)]; exact h0
    · rw [undoA_pl b (by omega)]; exact h1
    · rw [undoA_4]; omega
    · rw [undoA_4]; omega
-- a step kept and taken back
theorem keepB_undX (a : Nat → Int) (h4 : 0 ≤ a 4 ∧ a 4 < 30) : undX (keepB a) = 193 + 155 * (a 4).toNat := by
  unfold undX keepB
  rw [va_up_self]
  omega
theorem keepB_row (a : Nat → Int) {q : Nat} (hq : q < 155) : keepB a (193 + 155 * (a 4).toNat + q) = rowOf a q := by
  unfold keepB
  rw [va_up_ne _ _ (by omega), fillI_in hq]
theorem keepB_out (a : Nat → Int) {k : Nat} (h : k < 193 + 155 * (a 4).toNat ∨ 193 + 155 * (a 4).toNat + 155 ≤ k) (h4 : k ≠ 4) : keepB a k = a k := by
  unfold keepB
  rw [va_up_ne _ _ h4, fillI_out h]
theorem rowOf_m (a : Nat → Int) {j : Nat} (h : j < 4) : rowOf a (2 + j) = a (7 + j) := by
  unfold rowOf
  rw [if_neg (by omega), if_neg (by omega), if_pos (by omega), Nat.add_sub_cancel_left]
theorem rowOf_l (a : Nat → Int) {l w : Nat} (h : l < 12) (hw : w < 2) : rowOf a (6 + 2 * l + w) = a (11 + 5 * l + w) := by
  unfold rowOf
  rw [if_neg (by omega), if_neg (by omega), if_neg (by omega), if_pos (by omega), show (6 + 2 * l + w - 6) / 2 = l by omega, show (6 + 2 * l + w - 6) % 2 = w by omega]
theorem rowOf_b (a : Nat → Int) {b w : Nat} (h : b < 5) (hw : w < 13) : rowOf a (30 + 13 * b + w) = a (71 + 14 * b + w) := by
  unfold rowOf
  rw [if_neg (by omega), if_neg (by omega), if_neg (by omega), if_neg (by omega), if_pos (by omega), show (30 + 13 * b + w - 30) / 13 = b by omega, show (30 + 13 * b + w - 30) % 13 = w by omega]
theorem rowOf_k (a : Nat → Int) (i : Nat) : rowOf a (95 + i) = a (4843 + i) := by
  unfold rowOf
  rw [if_neg (by omega), if_neg (by omega), if_neg (by omega), if_neg (by omega), if_neg (by omega), Nat.add_sub_cancel_left]
theorem EQ_keepB {a : Nat → Int} (h4 : 0 ≤ a 4 ∧ a 4 < 30) (h0 : a 0 ≤ 12) (h1 : a 1 ≤ 5) : EQ (a 4).toNat (undoA (keepB a)) a := by
  have X := keepB_undX a h4
  have lo : ∀ k, k < 193 → k ≠ 4 → keepB a k = a k := fun k h h9 => keepB_out a (by omega) h9
  have k4 : keepB a 4 = a 4 + 1 := by unfold keepB; rw [va_up_self]
  have r0 : keepB a (193 + 155 * (a 4).toNat) = a 0 := by
    have := keepB_row a (q := 0) (by omega)
    rw [Nat.add_zero] at this
    rw [this]
    rfl
  have r1 : keepB a (193 + 155 * (a 4).toNat + 1) = a 1 := by
    rw [keepB_row a (q := 1) (by omega)]
    rfl
  refine ⟨fun k h h9 => ?_, fun l hl w hw => ?_, fun q hq w hw => ?_, fun i hi => ?_, ⟨?_, ?_⟩, fun i hi q hq => ?_⟩
  · by_cases h7 : k < 7
    · rw [undoA_pl _ (by omega), lo k (by omega) h9]
    · obtain ⟨j, rfl⟩ : ∃ j, k = 7 + j := ⟨k - 7, by omega⟩
      rw [undoA_7 _ (by omega), X, show 193 + 155 * (a 4).toNat + 2 + j = 193 + 155 * (a 4).toNat + (2 + j) by omega, keepB_row a (by omega), rowOf_m a (by omega)]
  · rw [undoA_l _ (by omega) hw, X, r0, lo 0 (by omega) (by omega), if_pos hl, if_pos hl, if_pos hl]
    by_cases w0 : w = 0
    · subst w0
      rw [if_pos rfl, show 193 + 155 * (a 4).toNat + 6 + 2 * l = 193 + 155 * (a 4).toNat + (6 + 2 * l + 0) by omega, keepB_row a (by omega), rowOf_l a (by omega) (by omega)]
    · rw [if_neg w0]
      by_cases w1 : w = 1
      · subst w1
        rw [if_pos rfl, show 193 + 155 * (a 4).toNat + 7 + 2 * l = 193 + 155 * (a 4).toNat + (6 + 2 * l + 1) by omega, keepB_row a (by omega), rowOf_l a (by omega) (by omega)]
      · rw [if_neg w1, lo _ (by omega) (by omega)]
  · rw [undoA_b _ (by omega) hw, X, r1, lo 1 (by omega) (by omega), if_pos hq, if_pos hq]
    by_cases hw13 : w < 13
    · rw [if_pos hw13, show 193 + 155 * (a 4).toNat + 30 + 13 * q + w = 193 + 155 * (a 4).toNat + (30 + 13 * q + w) by omega, keepB_row a (by omega), rowOf_b a (by omega) hw13]
    · rw [if_neg hw13, lo _ (by omega) (by omega)]
  · rw [undoA_k _ hi, X, show 193 + 155 * (a 4).toNat + 95 + i = 193 + 155 * (a 4).toNat + (95 + i) by omega, keepB_row a (by omega), rowOf_k]
  · rw [undoA_4, k4]; omega
  · omega
  · rw [undoA_4, k4, show (a 4 + 1 - 1).toNat = (a 4).toNat by omega, undoA_pl _ (by omega), keepB_out a (by omega) (by omega)]
theorem EQ_shA {a : Nat → Int} (h4 : a 4 = 30) (h0 : a 0 ≤ 12) (h1 : a 1 ≤ 5) : EQ 29 (shA a) a := by
  have lo : ∀ k, (k < 193 ∨ 4688 ≤ k) → k ≠ 4 → shA a k = a k := fun k h h9 => by
    unfold shA
    rw [va_up_ne _ _ h9, fillI_out (by omega)]
  have k4 : shA a 4 = 29 := by unfold shA; rw [va_up_self]
  refine ⟨fun k h h9 => lo k (by omega) h9, fun l hl w hw => ?_, fun q hq w hw => ?_, fun i hi => lo _ (by omega) (by omega), ⟨?_, ?_⟩, fun i hi q hq => ?_⟩
  · exact lo _ (by omega) (by omega)
  · exact lo _ (by omega) (by omega)
  · rw [k4]; decide
  · rw [h4]; decide
  · rw [k4, h4]
    unfold shA
    rw [va_up_ne _ _ (by omega), show (29 : Int).toNat - 1 - i = 28 - i from rfl, show (30 : Int).toNat - 1 - i = 29 - i from rfl, show 193 + 155 * (28 - i) + q = 193 + (155 * (28 - i) + q) by omega, fillI_in (by omega)]
    rw [show 348 + (155 * (28 - i) + q) = 193 + 155 * (29 - i) + q by omega]
theorem EQ_keep {a : Nat → Int} (h4 : 0 ≤ a 4 ∧ a 4 ≤ 30) (h0 : a 0 ≤ 12) (h1 : a 1 ≤ 5) : EQ (if a 4 = 30 then 29 else (a 4).toNat) (undoA (keepA a)) a := by
  unfold keepA
  by_cases h : a 4 = 30
  · rw [if_pos h, if_pos h]
    have e := EQ_shA h h0 h1
    have k4 : shA a 4 = 29 := by unfold shA; rw [va_up_self]
    have e0 := e.1 0 (by decide) (by decide)
    have e1 := e.1 1 (by decide) (by decide)
    have e2 := EQ_keepB (a := shA a) (by omega) (by omega) (by omega)
    rw [k4] at e2
    exact EQ_tr e2 e
  · rw [if_neg h, if_neg h]
    exact EQ_keepB (by omega) h0 h1
theorem keepA_4 {a : Nat → Int} (h4 : 0 ≤ a 4 ∧ a 4 ≤ 30) : keepA a 4 = if a 4 = 30 then 30 else a 4 + 1 := by
  unfold keepA
  by_cases h : a 4 = 30
  · rw [if_pos h, if_pos h]
    unfold keepB
    rw [va_up_self]
    unfold shA
    rw [va_up_self]
    rfl
  · rw [if_neg h, if_neg h]
    unfold keepB
    rw [va_up_self]
theorem keepA_lo {a : Nat → Int} {k : Nat} (h : k < 193 ∨ 4843 ≤ k) (h9 : k ≠ 4) (h4 : 0 ≤ a 4 ∧ a 4 ≤ 30) : keepA a k = a k := by
  unfold keepA
  by_cases h3 : a 4 = 30
  · have k4 : shA a 4 = 29 := by unfold shA; rw [va_up_self]
    rw [if_pos h3, keepB_out _ (by rw [k4]; omega) h9]
    unfold shA
    rw [va_up_ne _ _ h9, fillI_out (by omega)]
  · rw [if_neg h3, keepB_out _ (by omega) h9]
