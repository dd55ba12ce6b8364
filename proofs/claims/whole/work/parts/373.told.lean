-- what is told and no step changes
def tld (k : Nat) : Prop := k = 2 ∨ k = 3 ∨ k = 5 ∨ k = 6 ∨ (141 ≤ k ∧ k < 193)
section TL
variable {a a' : Nat → Int}
theorem undo_tld (h : ∀ k, ¬ tld k → a' k = a k) (h4 : 1 ≤ a 4 ∧ a 4 ≤ 30) : ∀ k, ¬ tld k → undoA a' k = undoA a k := by
  intro k hk
  have e0 : a' 0 = a 0 := h 0 (by unfold tld; omega)
  have e1 : a' 1 = a 1 := h 1 (by unfold tld; omega)
  have e4 : a' 4 = a 4 := h 4 (by unfold tld; omega)
  have eX : undX a' = undX a := by unfold undX; rw [e4]
  have hX : 193 ≤ undX a ∧ undX a + 155 ≤ 4843 := undX_lt h4
  have ek : a' k = a k := h k hk
  have hr : ∀ q, q < 155 → a' (undX a + q) = a (undX a + q) := fun q hq => h _ (by unfold tld; omega)
  unfold undoA
  rw [eX, e0, e1, e4]
  by_cases k4 : k = 4
  · rw [if_pos k4, if_pos k4]
  rw [if_neg k4, if_neg k4]
  by_cases k7 : 7 ≤ k ∧ k < 11
  · rw [if_pos k7, if_pos k7, Nat.add_assoc, hr _ (by omega)]
  rw [if_neg k7, if_neg k7]
  have hx0 := hr 0 (by omega)
  have hx1 := hr 1 (by omega)
  rw [Nat.add_zero] at hx0
  by_cases k11 : 11 ≤ k ∧ k < 71
  · rw [if_pos k11, if_pos k11, hx0, Nat.add_assoc (undX a) 6, Nat.add_assoc (undX a) 7, hr (6 + 2 * ((k - 11) / 5)) (by omega), hr (7 + 2 * ((k - 11) / 5)) (by omega), ek, h (11 + 5 * ((k - 11) / 5) + 4) (by unfold tld; omega)]
  rw [if_neg k11, if_neg k11]
  by_cases k71 : 71 ≤ k ∧ k < 141
  · rw [if_pos k71, if_pos k71, hx1, ek, h (71 + 14 * ((k - 71) / 14) + 13) (by unfold tld; omega)]
    by_cases k13 : (k - 71) % 14 < 13
    · rw [Nat.add_assoc (undX a + 30), Nat.add_assoc (undX a) 30, hr (30 + (13 * ((k - 71) / 14) + (k - 71) % 14)) (by omega)]
    · simp only [if_neg k13]
  rw [if_neg k71, if_neg k71]
  by_cases k48 : 4843 ≤ k ∧ k < 4903
  · rw [if_pos k48, if_pos k48, Nat.add_assoc, hr _ (by omega)]
  rw [if_neg k48, if_neg k48, ek]
theorem und_tld : ∀ (j : Nat) {a a' : Nat → Int}, (∀ k, ¬ tld k → a' k = a k) → (j : Int) ≤ a 4 → a 4 ≤ 30 → ∀ k, ¬ tld k → und j a' k = und j a k
  | 0, a, a', h, _, _, k, hk => h k hk
  | j + 1, a, a', h, hj, h4, k, hk => by
    rw [und, und]
    exact und_tld j (undo_tld h (by omega)) (by rw [undoA_4]; omega) (by rw [undoA_4]; omega) k hk
theorem HX_up {C : Nat → Nat → Int} {o : Nat} {b b' : Nat → Int} (h : HX b C o) (W : Wf b') (e : ∀ k, ¬ tld k → b' k = b k) : HX b' C o := by
  obtain ⟨⟨⟨p1, p2, p3, p4⟩, HL, HB, ⟨z1, z2, z3⟩⟩, ⟨k1, k2⟩, W0⟩ := h
  have w0 := W0.1.1
  have w1 := W0.1.2.1
  have e0 : b' 0 = b 0 := e 0 (by unfold tld; omega)
  have e1 : b' 1 = b 1 := e 1 (by unfold tld; omega)
  have e10 : b' 10 = b 10 := e 10 (by unfold tld; omega)
  have w10 := W0.1.2.2.2.2.2.2.2.2
  refine ⟨⟨⟨by rw [e 7 (by unfold tld; omega)]; exact p1, by rw [e 8 (by unfold tld; omega)]; exact p2, by rw [e 9 (by unfold tld; omega)]; exact p3, p4⟩, fun l hl => ?_, fun q hq => ⟨?_, fun l hl => ?_⟩, fun l hl h2 => ?_, fun q l hq hl h2 => ?_, fun q l hq hl h2 => ?_⟩, ⟨by rw [e10]; exact k1, fun i hi => ?_⟩, W⟩
  · rw [e0] at hl
    rw [e _ (by unfold tld; omega), e _ (by unfold tld; omega)]
    exact HL l hl
  · rw [e1] at hq
    rw [e _ (by unfold tld; omega)]
    exact (HB q hq).1
  · rw [e1] at hq
    rw [e _ (by unfold tld; omega)]
    exact (HB q hq).2 l hl
  · rw [e0] at h2
    exact z1 l hl h2
  · rw [e1] at h2
    exact z2 q l hq hl h2
  · rw [e1] at hq
    rw [e0] at h2
    rw [e _ (by unfold tld; omega)]
    exact z3 q l hq hl h2
  · rw [e10] at hi
    rw [e _ (by unfold tld; omega), e _ (by unfold tld; omega)]
    exact k2 i hi
theorem Wf_tld {b b' : Nat → Int} (W : Wf b) (e : ∀ k, ¬ tld k → b' k = b k) (h2 : 0 ≤ b' 2 ∧ b' 2 ≤ 4) (h3 : -1 ≤ b' 3 ∧ b' 3 < b' 2) : Wf b' := by
  obtain ⟨⟨w0, w1, w2, w3, w4, w7, w8, w9, w10⟩, WL, WB⟩ := W
  have e0 : b' 0 = b 0 := e 0 (by unfold tld; omega)
  have e1 : b' 1 = b 1 := e 1 (by unfold tld; omega)
  refine ⟨⟨by rw [e0]; exact w0, by rw [e1]; exact w1, h2, h3, by rw [e 4 (by unfold tld; omega)]; exact w4, by rw [e 7 (by unfold tld; omega)]; exact w7, by rw [e 8 (by unfold tld; omega)]; exact w8, by rw [e 9 (by unfold tld; omega)]; exact w9, by rw [e 10 (by unfold tld; omega)]; exact w10⟩, fun l hl => ?_, fun q hq => ⟨?_, fun l hl => ?_⟩⟩
  · rw [e0] at hl
    rw [e (11 + 5 * l) (by unfold tld; omega), e (12 + 5 * l) (by unfold tld; omega), e (13 + 5 * l) (by unfold tld; omega), e (14 + 5 * l) (by unfold tld; omega), e1]
    exact WL l hl
  · rw [e1] at hq
    rw [e _ (by unfold tld; omega)]
    exact (WB q hq).1
  · rw [e1] at hq
    rw [e _ (by unfold tld; omega)]
    exact (WB q hq).2 l hl
/-- something is told: the steps stay -/
theorem Rel_tld {C C' : Nat → Nat → Int} (R : Rel a C 1 14 20) (e : ∀ k, ¬ tld k → a' k = a k) (h2 : 0 ≤ a' 2 ∧ a' 2 ≤ 4) (h3 : -1 ≤ a' 3 ∧ a' 3 < a' 2) (T : Td a' C' 1) (X : TdX a' C' 1) (WX : WfX a') (hC : ∀ i, 14 ≤ i → i ≤ 201 → C' i = C i) : Rel a' C' 1 14 20 := by
  obtain ⟨_, _, _, RS, RO⟩ := R
  have e4 : a' 4 = a 4 := e 4 (by unfold tld; omega)
  have h30 := RS.1.2.2
  refine ⟨T, X, WX, RlS_all RS e4 ⟨by rw [hC 20 (by omega) (by omega)], by rw [hC 20 (by omega) (by omega)]⟩ (fun j hj o ho hr hx => ?_), fun k hk => ?_⟩
  · have eu := und_tld j e hj h30.2
    refine HX_fr (HX_up hx (Wf_tld hx.2.2 eu ?_ ?_) eu) (fun i i1 i2 => by unfold isH at ho; exact hC i (by omega) (by omega))
    · rw [und_lo j a' (by omega)]; exact h2
    · rw [und_lo j a' (by omega), und_lo j a' (by omega)]; exact h3
  · rw [e4] at hk
    rw [e (193 + 155 * k) (by unfold tld; omega), e (194 + 155 * k) (by unfold tld; omega), e 0 (by unfold tld; omega), e 1 (by unfold tld; omega)]
    exact RO k hk
theorem TxR_c {T T' : Nat → Int} {t n : Nat} {V : Nat → Option Den} {rws : Nat → Row} (h : TxR T t n V rws) (e : ∀ k, 705 * t ≤ k → k < 705 * t + 705 → T' k = T k) : TxR T' t n V rws := by
  obtain ⟨w, h0, hn, hw, ⟨hR1, hR2⟩, hk⟩ := h
  refine ⟨w, by rw [e _ (by omega) (by omega)]; exact h0, hn, hw, ⟨fun i hi => ?_, hR2⟩, hk⟩
  obtain ⟨y1, y2, y3⟩ := hR1 i hi
  have nb : ncl (rws i).1 ≤ 3 := by unfold ncl; (repeat' split) <;> omega
  refine ⟨by rw [e _ (by omega) (by omega)]; exact y1, fun c h1 h2 => by rw [e _ (by omega) (by omega)]; exact y2 c h1 h2, fun z => ?_⟩
  obtain ⟨d, a, b, z1, z2, z3, z4, z5, z6⟩ := y3 z
  refine ⟨d, a, b, z1, by rw [e _ (by omega) (by omega)]; exact z2, by rw [e _ (by omega) (by omega)]; exact z3, z4, z5, ?_⟩
  rw [cex_c (f := T) (b - a) (fun k k1 k2 => e k (by omega) (by omega))]
  exact z6
end TL
