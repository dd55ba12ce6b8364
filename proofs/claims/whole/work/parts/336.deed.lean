-- what a deed changes, and what a step taken back makes of it
def Dd (k k' : Nat → Int) : Prop := ∀ p : Nat, k' p ≠ k p → (7 ≤ p ∧ p < 11) ∨ (∃ l : Nat, (l : Int) < k 0 ∧ (p = 11 + 5 * l ∨ p = 12 + 5 * l)) ∨ (∃ b w : Nat, (b : Int) < k 1 ∧ w < 13 ∧ p = 71 + 14 * b + w) ∨ (4843 ≤ p ∧ p < 4903)
theorem Dd_r (k : Nat → Int) : Dd k k := fun _ h => absurd rfl h
theorem Dd_lo {k k' : Nat → Int} (D : Dd k k') (h0 : k 0 ≤ 12) (h1 : k 1 ≤ 5) {p : Nat} (hp : p < 7 ∨ (141 ≤ p ∧ p < 4843) ∨ 4903 ≤ p) : k' p = k p := by
  by_cases q : k' p = k p
  · exact q
  · rcases D p q with h | ⟨l, hl, h⟩ | ⟨b, w, hb, hw, h⟩ | h <;> omega
theorem Dd_t {k k1 k2 : Nat → Int} (h0 : k 0 ≤ 12) (h1 : k 1 ≤ 5) (D1 : Dd k k1) (D2 : Dd k1 k2) : Dd k k2 := by
  intro p hp
  by_cases q : k1 p = k p
  · have e0 := Dd_lo D1 h0 h1 (p := 0) (by omega)
    have e1 := Dd_lo D1 h0 h1 (p := 1) (by omega)
    have := D2 p (fun z => hp (z.trans q))
    rw [e0, e1] at this
    exact this
  · exact D1 p q
theorem Dd_up {k k' : Nat → Int} (D : Dd k k') {p : Nat} {z : Int} (hp : (7 ≤ p ∧ p < 11) ∨ (∃ l : Nat, (l : Int) < k 0 ∧ (p = 11 + 5 * l ∨ p = 12 + 5 * l)) ∨ (∃ b w : Nat, (b : Int) < k 1 ∧ w < 13 ∧ p = 71 + 14 * b + w) ∨ (4843 ≤ p ∧ p < 4903)) : Dd k (va_up k' p z) := by
  intro q hq
  by_cases e : q = p
  · rw [e]; exact hp
  · rw [va_up_ne _ _ e] at hq
    exact D q hq
theorem Dd_und {k k' : Nat → Int} (D : Dd k k') (h0 : 0 ≤ k 0 ∧ k 0 ≤ 12) (h1 : 0 ≤ k 1 ∧ k 1 ≤ 5) (h4 : 1 ≤ k 4 ∧ k 4 ≤ 30) (r0 : k (undX k) = k 0) (r1 : k (undX k + 1) = k 1) : undoA k' = undoA k := by
  have lo : ∀ p, (p < 7 ∨ (141 ≤ p ∧ p < 4843) ∨ 4903 ≤ p) → k' p = k p := fun p hp => Dd_lo D h0.2 h1.2 hp
  have e4 := lo 4 (by omega)
  have e0 := lo 0 (by omega)
  have e1 := lo 1 (by omega)
  have eX : undX k' = undX k := by unfold undX; rw [e4]
  have hX := undX_lt h4
  funext p
  by_cases c1 : p = 4
  · rw [c1, undoA_4, undoA_4, e4]
  by_cases c2 : 7 ≤ p ∧ p < 11
  · obtain ⟨j, rfl⟩ : ∃ j, p = 7 + j := ⟨p - 7, by omega⟩
    rw [undoA_7 _ (by omega), undoA_7 _ (by omega), eX, lo _ (by omega)]
  by_cases c3 : 11 ≤ p ∧ p < 71
  · obtain ⟨l, w, hl, hw, rfl⟩ : ∃ l w, l < 12 ∧ w < 5 ∧ p = 11 + 5 * l + w := ⟨(p - 11) / 5, (p - 11) % 5, by omega, by omega, by omega⟩
    rw [undoA_l _ hl hw, undoA_l _ hl hw, eX, e0, lo (undX k) (by omega), lo (undX k + 6 + 2 * l) (by omega), lo (undX k + 7 + 2 * l) (by omega), r0]
    have hs : ((l : Int) < k 0 → 2 ≤ w) → k' (11 + 5 * l + w) = k (11 + 5 * l + w) := fun hh => by
      by_cases q : k' (11 + 5 * l + w) = k (11 + 5 * l + w)
      · exact q
      · rcases D _ q with h | ⟨l2, hl2, h⟩ | ⟨b, w2, hb, hw2, h⟩ | h
        · omega
        · have el : l2 = l := by omega
          rw [el] at hl2
          have := hh hl2
          omega
        · omega
        · omega
    by_cases q : (l : Int) < k 0
    · simp only [if_pos q]
      by_cases w0 : w = 0
      · simp only [if_pos w0]
      · simp only [if_neg w0]
        by_cases w1 : w = 1
        · simp only [if_pos w1]
        · simp only [if_neg w1]
          exact hs (fun _ => by omega)
    · simp only [if_neg q]
      exact hs (fun z => absurd z q)
  by_cases c4 : 71 ≤ p ∧ p < 141
  · obtain ⟨b, w, hb, hw, rfl⟩ : ∃ b w, b < 5 ∧ w < 14 ∧ p = 71 + 14 * b + w := ⟨(p - 71) / 14, (p - 71) % 14, by omega, by omega, by omega⟩
    have hs : ((b : Int) < k 1 → 13 ≤ w) → k' (71 + 14 * b + w) = k (71 + 14 * b + w) := fun hh => by
      by_cases q : k' (71 + 14 * b + w) = k (71 + 14 * b + w)
      · exact q
      · rcases D _ q with h | ⟨l2, hl2, h⟩ | ⟨b2, w2, hb2, hw2, h⟩ | h
        · omega
        · omega
        · have el : b2 = b := by omega
          rw [el] at hb2
          have := hh hb2
          omega
        · omega
    rw [undoA_b _ hb hw, undoA_b _ hb hw, eX, e1, lo (undX k + 1) (by omega), r1]
    by_cases q : (b : Int) < k 1
    · simp only [if_pos q]
      by_cases w0 : w < 13
      · simp only [if_pos w0]
        exact lo _ (by omega)
      · simp only [if_neg w0]
        exact hs (fun _ => by omega)
    · simp only [if_neg q]
      exact hs (fun z => absurd z q)
  by_cases c5 : 4843 ≤ p ∧ p < 4903
  · obtain ⟨j, rfl⟩ : ∃ j, p = 4843 + j := ⟨p - 4843, by omega⟩
    rw [undoA_k _ (by omega), undoA_k _ (by omega), eX, lo _ (by omega)]
  · rw [undoA_pl _ (by omega), undoA_pl _ (by omega), lo _ (by omega)]
theorem keepA_r {a : Nat → Int} (h4 : 0 ≤ a 4 ∧ a 4 ≤ 30) : keepA a (undX (keepA a)) = a 0 ∧ keepA a (undX (keepA a) + 1) = a 1 := by
  unfold keepA
  have key : ∀ b : Nat → Int, (0 ≤ b 4 ∧ b 4 < 30) → keepB b (undX (keepB b)) = b 0 ∧ keepB b (undX (keepB b) + 1) = b 1 := fun b hb => by
    rw [keepB_undX b hb]
    refine ⟨?_, ?_⟩
    · have := keepB_row b (q := 0) (by omega)
      rw [Nat.add_zero] at this
      rw [this]; rfl
    · rw [keepB_row b (q := 1) (by omega)]; rfl
  by_cases h : a 4 = 30
  · rw [if_pos h]
    have k4 : shA a 4 = 29 := by unfold shA; rw [va_up_self]
    have := key (shA a) (by omega)
    have s0 : shA a 0 = a 0 := by unfold shA; rw [va_up_ne _ _ (by decide), fillI_out (by omega)]
    have s1 : shA a 1 = a 1 := by unfold shA; rw [va_up_ne _ _ (by decide), fillI_out (by omega)]
    rw [s0, s1] at this
    exact this
  · rw [if_neg h]
    exact key a (by omega)
theorem RwO_keep {a : Nat → Int} (R : RwO a) (h4 : 0 ≤ a 4 ∧ a 4 ≤ 30) (h0 : 0 ≤ a 0) (h1 : 0 ≤ a 1) : RwO (keepA a) := by
  have key : ∀ b : Nat → Int, (0 ≤ b 4 ∧ b 4 < 30) → 0 ≤ b 0 → 0 ≤ b 1 → RwO b → RwO (keepB b) := fun b hb q0 q1 Rb => by
    intro k hk
    have k4 : keepB b 4 = b 4 + 1 := by unfold keepB; rw [va_up_self]
    rw [k4] at hk
    rw [keepB_out b (k := 0) (by omega) (by omega), keepB_out b (k := 1) (by omega) (by omega)]
    by_cases e : k = (b 4).toNat
    · have r0 := keepB_row b (q := 0) (by omega)
      have r1 := keepB_row b (q := 1) (by omega)
      rw [← e] at r0 r1
      rw [show 193 + 155 * k + 0 = 193 + 155 * k by omega] at r0
      rw [show 193 + 155 * k + 1 = 194 + 155 * k by omega] at r1
      rw [r0, r1]
      show (0 ≤ b 0 ∧ b 0 ≤ b 0) ∧ (0 ≤ b 1 ∧ b 1 ≤ b 1)
      omega
    · rw [keepB_out b (by omega) (by omega), keepB_out b (by omega) (by omega)]
      exact Rb k (by omega)
  unfold keepA
  by_cases h : a 4 = 30
  · rw [if_pos h]
    have k4 : shA a 4 = 29 := by unfold shA; rw [va_up_self]
    have s0 : shA a 0 = a 0 := by unfold shA; rw [va_up_ne _ _ (by decide), fillI_out (by omega)]
    have s1 : shA a 1 = a 1 := by unfold shA; rw [va_up_ne _ _ (by decide), fillI_out (by omega)]
    refine key (shA a) (by omega) (by omega) (by omega) (fun k hk => ?_)
    rw [k4] at hk
    rw [s0, s1]
    have g : ∀ q, q < 155 → shA a (193 + 155 * k + q) = a (193 + 155 * (k + 1) + q) := fun q hq => by
      unfold shA
      rw [va_up_ne _ _ (by omega), show 193 + 155 * k + q = 193 + (155 * k + q) by omega, fillI_in (by omega)]
      rw [show 348 + (155 * k + q) = 193 + 155 * (k + 1) + q by omega]
    have g0 := g 0 (by omega)
    have g1 := g 1 (by omega)
    rw [show 193 + 155 * k + 0 = 193 + 155 * k by omega, show 193 + 155 * (k + 1) + 0 = 193 + 155 * (k + 1) by omega] at g0
    rw [show 193 + 155 * k + 1 = 194 + 155 * k by omega, show 193 + 155 * (k + 1) + 1 = 194 + 155 * (k + 1) by omega] at g1
    rw [g0, g1]
    exact R (k + 1) (by omega)
  · rw [if_neg h]
    exact key a (by omega) h0 h1 R
section DR
variable {x : Nat} {S : jSt} {C : Nat → Nat → Int} {a : Nat → Int} {V : LwV}
theorem Rel_fr {C' : Nat → Nat → Int} (R : Rel a C 1 14 20) (h : ∀ i, 1 ≤ i → i ≤ 201 → C' i = C i) : Rel a C' 1 14 20 := by
  obtain ⟨T, TX, WX, RS, RO⟩ := R
  refine ⟨Td_fr T (fun i h1 h2 => h i (by omega) (by omega)), TdX_ext TX WX (fun _ _ => rfl) ⟨by rw [h 1 (by omega) (by omega)], by rw [h 1 (by omega) (by omega)]⟩ (fun i h1 h2 => h i (by omega) (by omega)), WX, ?_, RO⟩
  refine RlS_all RS rfl ⟨by rw [h 20 (by omega) (by omega)], by rw [h 20 (by omega) (by omega)]⟩ (fun j hj o ho hr hx => HX_fr hx (fun i h1 h2 => ?_))
  unfold isH at ho
  exact h i (by omega) (by omega)
theorem Rel_deed {C' : Nat → Nat → Int} {a' : Nat → Int} (R : Rel a C 1 14 20) (D : Dd a a') (h4 : 1 ≤ a 4) (r0 : a (undX a) = a 0) (r1 : a (undX a + 1) = a 1) (X : HX a' C' 14) (hC : ∀ i, 1 ≤ i → i ≤ 201 → (i < 14 ∨ 19 < i) → C' i = C i) : Rel a' C' 1 14 20 := by
  have hX := Rel_h R
  obtain ⟨T, TX, WX, RS, RO⟩ := R
  obtain ⟨w0, w1, w2, w3, w4, w7, w8, w9, w10⟩ := hX.2.2.1
  have lo : ∀ p, (p < 7 ∨ (141 ≤ p ∧ p < 4843) ∨ 4903 ≤ p) → a' p = a p := fun p hp => Dd_lo D w0.2 w1.2 hp
  have eu := Dd_und D w0 w1 ⟨h4, w4.2⟩ r0 r1
  have tl : ∀ l w : Nat, 2 ≤ w → w < 5 → l < 12 → a' (11 + 5 * l + w) = a (11 + 5 * l + w) := fun l w q1 q2 q3 => by
    by_cases q : a' (11 + 5 * l + w) = a (11 + 5 * l + w)
    · exact q
    · rcases D _ q with h | ⟨l2, hl2, h⟩ | ⟨b2, w2, hb2, hw2, h⟩ | h <;> omega
  refine ⟨⟨?_, ?_, ?_, ?_, fun l hl => ?_⟩, ?_, ?_, ?_, ?_⟩
  · rw [hC 1 (by omega) (by omega) (by omega), lo 0 (by omega)]; exact T.1
  · rw [hC 1 (by omega) (by omega) (by omega), lo 1 (by omega)]; exact T.2.1
  · rw [hC 1 (by omega) (by omega) (by omega), lo 2 (by omega)]; exact T.2.2.1
  · rw [hC 1 (by omega) (by omega) (by omega), lo 3 (by omega)]; exact T.2.2.2.1
  · rw [lo 0 (by omega)] at hl
    have e1 := tl l 2 (by omega) (by omega) (by omega)
    have e2 := tl l 3 (by omega) (by omega) (by omega)
    rw [show 11 + 5 * l + 2 = 13 + 5 * l by omega] at e1
    rw [show 11 + 5 * l + 3 = 14 + 5 * l by omega] at e2
    rw [hC _ (by omega) (by omega) (by omega), hC _ (by omega) (by omega) (by omega), e1, e2]
    exact T.2.2.2.2 l hl
  · exact TdX_ext TX WX (fun k hk => lo k (by omega)) ⟨by rw [hC 1 (by omega) (by omega) (by omega)], by rw [hC 1 (by omega) (by omega) (by omega)]⟩ (fun i h1 h2 => hC i (by omega) (by omega) (by omega))
  · exact WfX_ext WX (fun k hk => lo k (by omega)) (by rw [lo 0 (by omega)]; omega) (by rw [lo 1 (by omega)]; omega)
  · obtain ⟨⟨c2, c1, c4⟩, hj⟩ := RS
    have e20 : C' 20 = C 20 := hC 20 (by omega) (by omega) (by omega)
    refine ⟨⟨by rw [e20, lo 4 (by omega)]; exact c2, by rw [e20]; exact c1, by rw [lo 4 (by omega)]; exact c4⟩, fun j hjj => ?_⟩
    rw [lo 4 (by omega)] at hjj
    rw [e20, lo 4 (by omega)]
    cases j with
    | zero => exact X
    | succ j =>
      have hx := hj (j + 1) hjj
      show HX (und j (undoA a')) C' _
      rw [eu]
      refine HX_fr (show HX (und j (undoA a)) C _ from hx) (fun i h1 h2 => ?_)
      unfold offR at h1 h2
      rw [if_neg (by omega)] at h1 h2
      exact hC i (by omega) (by omega) (by omega)
  · intro k hk
    rw [lo 4 (by omega)] at hk
    rw [lo (193 + 155 * k) (by omega), lo (194 + 155 * k) (by omega), lo 0 (by omega), lo 1 (by omega)]
    exact RO k hk
theorem Rel_ext {a' : Nat → Int} (R : Rel a C 1 14 20) (RS : RlS a' C 14 20) (RO : RwO a') (h : ∀ k, (k < 193 ∧ k ≠ 4) → a' k = a k) : Rel a' C 1 14 20 := by
  have hX := Rel_h R
  obtain ⟨T, TX, WX, _, _⟩ := R
  obtain ⟨w0, w1, w2, w3, w4, w7, w8, w9, w10⟩ := hX.2.2.1
  refine ⟨⟨by rw [h 0 (by omega)]; exact T.1, by rw [h 1 (by omega)]; exact T.2.1, by rw [h 2 (by omega)]; exact T.2.2.1, by rw [h 3 (by omega)]; exact T.2.2.2.1, fun l hl => ?_⟩, TdX_ext TX WX (fun k hk => h k (by omega)) ⟨rfl, rfl⟩ (fun _ _ _ => rfl), WfX_ext WX (fun k hk => h k (by omega)) (by rw [h 0 (by omega)]; omega) (by rw [h 1 (by omega)]; omega), RS, RO⟩
  rw [h 0 (by omega)] at hl
  rw [h _ (by omega), h _ (by omega)]
  exact T.2.2.2.2 l hl
/-- a step is kept -/
theorem c_keep (I : CI x S C) (R : Rel a C 1 14 20) : ∃ C', f_X8_push ((x + 20 : Nat) : Int) ((x + 14 : Nat) : Int) (cS x S C) = some (0, cS x S C') ∧ CI x S C' ∧ Rel (keepA a) C' 1 14 20 ∧ ∀ i, (i < 20 ∨ 201 < i) → C' i = C i := by
  obtain ⟨C', v, I', RS, f⟩ := c_push I R.2.2.2.1
  have hX := Rel_h R
  obtain ⟨w0, w1, w2, w3, w4, w7, w8, w9, w10⟩ := hX.2.2.1
  refine ⟨C', v, I', ?_, f⟩
  obtain ⟨T, TX, WX, RS0, RO⟩ := R
  have lo : ∀ k, (k < 193 ∧ k ≠ 4) → keepA a k = a k := fun k hk => keepA_lo (by omega) hk.2 w4
  refine ⟨⟨?_, ?_, ?_, ?_, fun l hl => ?_⟩, TdX_ext TX WX (fun k hk => lo k (by omega)) ⟨by rw [f 1 (by omega)], by rw [f 1 (by omega)]⟩ (fun i _ _ => f i (by omega)), WfX_ext WX (fun k hk => lo k (by omega)) (by rw [lo 0 (by omega)]; omega) (by rw [lo 1 (by omega)]; omega), RS, RwO_keep RO w4 w0.1 w1.1⟩
  · rw [f 1 (by omega), lo 0 (by omega)]; exact T.1
  · rw [f 1 (by omega), lo 1 (by omega)]; exact T.2.1
  · rw [f 1 (by omega), lo 2 (by omega)]; exact T.2.2.1
  · rw [f 1 (by omega), lo 3 (by omega)]; exact T.2.2.2.1
  · rw [lo 0 (by omega)] at hl
    rw [f _ (by omega), f _ (by omega), lo _ (by omega), lo _ (by omega)]
    exact T.2.2.2.2 l hl
theorem Rel_HR (I : CI x S C) (R : Rel a C 1 14 20) (L : LvC x S (C 4) (a 2) V) : HR true x S V a C 14 := ⟨I, R.1, (Rel_h R).1, (Rel_h R).2.2, L, fun _ => (Rel_h R).2.1⟩
theorem HR_HX {o : Nat} (h : HR true x S V a C o) : HX a C o := ⟨h.2.2.1, h.2.2.2.2.2 rfl, h.2.2.2.1⟩
end DR
-- what the deeds change
theorem Dd_book {a : Nat → Int} (h10 : 0 ≤ a 10 ∧ a 10 ≤ 30) (l b p : Int) : Dd a (bookA a l b p) := by
  intro k hk
  by_cases h : k < 4843
  · by_cases h2 : k = 10
    · left; omega
    · exact absurd (bookA_lo a l b p h h2) hk
  · by_cases h3 : k < 4903
    · right; right; right; omega
    · exfalso
      apply hk
      have s10 : 0 ≤ shB a 10 ∧ shB a 10 ≤ 29 ∨ shB a 10 = a 10 ∧ a 10 < 30 := by
        unfold shB
        by_cases e : a 10 = 30
        · rw [if_pos e, va_up_self]; left; omega
        · rw [if_neg e]; right; omega
      unfold bookA
      rw [va_up_ne _ _ (by omega), va_up_ne _ _ (by omega), va_up_ne _ _ (by omega)]
      unfold shB
      split
      · rw [va_up_ne _ _ (by omega), fillI_out (by omega)]
      · rfl
theorem Dd_sold {a : Nat → Int} (W : Wf a) (wr : Bool) {l w : Nat} (hl : (l : Int) < a 0) (hw : (w : Int) < a 1) (p : Int) : Dd a (soldA wr a l w p) := by
  obtain ⟨w0, w1, w2, w3, w4, w7, w8, w9, w10⟩ := W.1
  have k3 : Dd a (va_up (va_up (va_up a (71 + 14 * w) (a (71 + 14 * w) - p)) 8 (clp 99999 (a 8 + p))) (12 + 5 * l) (3 + (w : Int))) :=
    Dd_up (Dd_up (Dd_up (Dd_r a) (Or.inr (Or.inr (Or.inl ⟨w, 0, hw, by omega, by omega⟩)))) (Or.inl (by omega))) (Or.inr (Or.inl ⟨l, hl, by omega⟩))
  unfold soldA
  split
  · refine Dd_t w0.2 w1.2 k3 (Dd_book ?_ _ _ _)
    rw [va_up_ne _ _ (by omega), va_up_ne _ _ (by omega), va_up_ne _ _ (by omega)]
    exact w10
  · exact k3
theorem Dd_sel {a : Nat → Int} (W : Wf a) (wr : Bool) (V : LwV) {l : Nat} (hl : (l : Int) < a 0) : Dd a (selA wr a V l) := by
  unfold selA
  split
  · exact Dd_r a
  · rename_i h
    have hn := (winv_n (V := V) W l).resolve_left h
    exact Dd_sold W wr hl (by omega) _
theorem Dd_warm {a : Nat → Int} (V : LwV) {l : Nat} (hl : l < 12) (hb : 0 < a 1) : Dd a (warmA a V l) := by
  have k1 : Dd a (anewA a) := Dd_up (Dd_r a) (Or.inl (by omega))
  have hm : 0 ≤ a 9 % 10 % a 1 ∧ a 9 % 10 % a 1 < a 1 := ⟨Int.emod_nonneg _ (by omega), Int.emod_lt_of_pos _ hb⟩
  unfold warmA
  split
  · exact Dd_up k1 (Or.inr (Or.inr (Or.inl ⟨(a 9 % 10 % a 1).toNat, 1 + l, by omega, by omega, by omega⟩)))
  · exact k1
theorem Dd_pasS {a : Nat → Int} (W : Wf a) (wr : Bool) (V : LwV) (f : Int) : ∀ n : Nat, (n : Int) ≤ a 0 → Dd a (pasS wr V f a n).1
  | 0, _ => Dd_r a
  | n + 1, h => by
    have ih := Dd_pasS W wr V f n (by omega)
    have p0 : (pasS wr V f a n).1 0 = a 0 := pasS_lo wr V f a (by omega) n
    have p1 : (pasS wr V f a n).1 1 = a 1 := pasS_lo wr V f a (by omega) n
    have w0 := W.1.1
    have w1 := W.1.2.1
    have Wn := Wf_pasS wr V f W n (by omega)
    unfold pasS
    split
    · have k1 := Dd_warm (a := (pasS wr V f a n).1) V (l := n) (by omega) (by rw [p1]; omega)
      have k2 := Dd_sel (Wf_warm V Wn (l := n) (by rw [p0]; omega) (by rw [p1]; omega)) wr V (l := n) (by rw [warmA_lo _ _ _ (by omega) (by omega), p0]; omega)
      exact Dd_t w0.2 w1.2 ih (Dd_t (by rw [p0]; exact w0.2) (by rw [p1]; exact w1.2) k1 k2)
    · exact ih
theorem Dd_pas {a : Nat → Int} (W : Wf a) (wr : Bool) (V : LwV) : Dd a (pasA wr V a) := by
  have w0 := W.1.1
  exact Dd_up (Dd_pasS W wr V (sfl a) (a 0).toNat (by omega)) (Or.inl (by omega))
theorem Dd_buy {a : Nat → Int} (W : Wf a) {l : Nat} {p : Int} (hc : canBuyP a l p) : Dd a (buyA a l p) := by
  obtain ⟨c1, c2, c3, c4, c5⟩ := hc
  rw [toNat_z] at c2 c5
  have wl := W.2.1 l c1.2
  exact Dd_up (Dd_up (Dd_up (Dd_r a) (Or.inl (by omega))) (Or.inr (Or.inr (Or.inl ⟨(a (12 + 5 * l) - 3).toNat, 0, by omega, by omega, by omega⟩)))) (Or.inr (Or.inl ⟨l, c1.2, by omega⟩))
theorem Dd_year {a : Nat → Int} (W : Wf a) (wr : Bool) (V : LwV) : Dd a (yearA wr V a) := by
  have k := Wf_anew W
  obtain ⟨w0, w1, w2, w3, w4, w7, w8, w9, w10⟩ := W.1
  have d1 : Dd a (anewA a) := Dd_up (Dd_r a) (Or.inl (by omega))
  unfold yearA
  split
  · split
    · exact Dd_t w0.2 w1.2 d1 (Dd_pas k wr V)
    · exact d1
  · split
    · exact d1
    · rename_i h0
      have hm : 0 ≤ a 9 % a 0 ∧ a 9 % a 0 < a 0 := ⟨Int.emod_nonneg _ h0, Int.emod_lt_of_pos _ (by omega)⟩
      have hl : (((a 9 % a 0).toNat : Nat) : Int) < a 0 := by omega
      split
      · split
        · exact Dd_t w0.2 w1.2 d1 (Dd_sel k wr V hl)
        · exact d1
      · split
        · split
          · exact d1
          · exact Dd_up d1 (Or.inr (Or.inl ⟨(a 9 % a 0).toNat, hl, by omega⟩))
        · split
          · split
            · exact Dd_up d1 (Or.inr (Or.inl ⟨(a 9 % a 0).toNat, hl, by omega⟩))
            · exact d1
          · split
            · exact d1
            · rename_i h3
              have hc : canBuyP (anewA a) (a 9 % a 0) (20 + a 9 % 30) := Classical.byContradiction (fun z => h3 (bb_0.mpr z))
              have e : ((a 9 % a 0).toNat : Int) = a 9 % a 0 := by omega
              rw [← e] at hc
              exact Dd_t w0.2 w1.2 d1 (Dd_buy k hc)
