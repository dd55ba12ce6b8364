section TB
variable {x : Nat} {S : jSt} {C : Nat → Nat → Int} {a b : Nat → Int} {o : Nat}
theorem c_tellFloor (I : CI x S C) {l : Nat} (hl : l < 12) (z : Int) : ∃ C', f_X8_tellFloor ((x + 20 : Nat) : Int) (l : Int) z (cS x S C) = some (0, cS x S C') ∧ CI x S C' ∧ (∀ r, r < 30 → C' (20 + 2 + 6 * r + 2) = va_up (C (20 + 2 + 6 * r + 2)) l z) ∧ ∀ i, (∀ r, r < 30 → i ≠ 20 + 2 + 6 * r + 2) → C' i = C i := by
  unfold f_X8_tellFloor f_X8_tellFloor_b2
  refine lpe (fun (r : Int → Int → Int → Int → fK) i (c : Nat → Nat → Int) => r ((x + 20 : Nat) : Int) (l : Int) z (i : Int) (cS x S c)) (fun n c => CI x S c ∧ (∀ r, r < n → c (20 + 2 + 6 * r + 2) = va_up (C (20 + 2 + 6 * r + 2)) l z) ∧ ∀ i, (∀ r, r < n → i ≠ 20 + 2 + 6 * r + 2) → c i = C i) (fun r => ∃ C', r = some (0, cS x S C') ∧ CI x S C' ∧ (∀ r, r < 30 → C' (20 + 2 + 6 * r + 2) = va_up (C (20 + 2 + 6 * r + 2)) l z) ∧ ∀ i, (∀ r, r < 30 → i ≠ 20 + 2 + 6 * r + 2) → C' i = C i) (N := 30) ?_ ?_ jN 0 C (by omega) (by unfold jN; omega) ⟨I, fun r hr => by omega, fun _ _ => rfl⟩
  · intro r i c hi hinv ih
    obtain ⟨Ic, h1, h2⟩ := hinv
    show ∃ C', f_X8_tellFloor_b2B r _ _ _ _ _ = _ ∧ _
    unfold f_X8_tellFloor_b2B
    rw [if_neg (by omega), cr20 Ic, show ((x + 21 : Nat) : Int) = ((x + (20 + 1) : Nat) : Int) from rfl, c_row Ic (Or.inl rfl) hi, if_pos (by omega), crh_1 Ic (isH_row hi), sth_2 Ic (isH_row hi) (by omega) (by omega), toNat_z]
    simp only [flet_eq]
    rw [w32_of (by omega) (by omega), zs]
    refine ih _ ⟨CI_ha Ic (isH_row hi) (by omega) (by omega), fun q hq => ?_, fun j hj => ?_⟩
    · by_cases e : q = i
      · subst e
        rw [va_up_self, h2 _ (fun r hr => by omega)]
      · rw [va_up_ne _ _ (by omega), h1 q (by omega)]
    · rw [va_up_ne _ _ (hj i (by omega)), h2 j (fun r hr => hj r (by omega))]
  · intro r c hinv
    obtain ⟨Ic, h1, h2⟩ := hinv
    show ∃ C', f_X8_tellFloor_b2B r _ _ _ _ _ = _ ∧ _
    unfold f_X8_tellFloor_b2B
    rw [if_pos (by omega)]
    exact ⟨c, rfl, Ic, h1, h2⟩
theorem c_tellPurse (I : CI x S C) {l : Nat} (hl : l < 5) (z : Int) : ∃ C', f_X8_tellPurse ((x + 20 : Nat) : Int) (l : Int) z (cS x S C) = some (0, cS x S C') ∧ CI x S C' ∧ (∀ r, r < 30 → C' (20 + 2 + 6 * r + 3) = va_up (C (20 + 2 + 6 * r + 3)) l z) ∧ ∀ i, (∀ r, r < 30 → i ≠ 20 + 2 + 6 * r + 3) → C' i = C i := by
  unfold f_X8_tellPurse f_X8_tellPurse_b2
  refine lpe (fun (r : Int → Int → Int → Int → fK) i (c : Nat → Nat → Int) => r ((x + 20 : Nat) : Int) (l : Int) z (i : Int) (cS x S c)) (fun n c => CI x S c ∧ (∀ r, r < n → c (20 + 2 + 6 * r + 3) = va_up (C (20 + 2 + 6 * r + 3)) l z) ∧ ∀ i, (∀ r, r < n → i ≠ 20 + 2 + 6 * r + 3) → c i = C i) (fun r => ∃ C', r = some (0, cS x S C') ∧ CI x S C' ∧ (∀ r, r < 30 → C' (20 + 2 + 6 * r + 3) = va_up (C (20 + 2 + 6 * r + 3)) l z) ∧ ∀ i, (∀ r, r < 30 → i ≠ 20 + 2 + 6 * r + 3) → C' i = C i) (N := 30) ?_ ?_ jN 0 C (by omega) (by unfold jN; omega) ⟨I, fun r hr => by omega, fun _ _ => rfl⟩
  · intro r i c hi hinv ih
    obtain ⟨Ic, h1, h2⟩ := hinv
    show ∃ C', f_X8_tellPurse_b2B r _ _ _ _ _ = _ ∧ _
    unfold f_X8_tellPurse_b2B
    rw [if_neg (by omega), cr20 Ic, show ((x + 21 : Nat) : Int) = ((x + (20 + 1) : Nat) : Int) from rfl, c_row Ic (Or.inl rfl) hi, if_pos (by omega), crh_2 Ic (isH_row hi), sth_3 Ic (isH_row hi) (by omega) (by omega), toNat_z]
    simp only [flet_eq]
    rw [w32_of (by omega) (by omega), zs]
    refine ih _ ⟨CI_ha Ic (isH_row hi) (by omega) (by omega), fun q hq => ?_, fun j hj => ?_⟩
    · by_cases e : q = i
      · subst e
        rw [va_up_self, h2 _ (fun r hr => by omega)]
      · rw [va_up_ne _ _ (by omega), h1 q (by omega)]
    · rw [va_up_ne _ _ (hj i (by omega)), h2 j (fun r hr => hj r (by omega))]
  · intro r c hinv
    obtain ⟨Ic, h1, h2⟩ := hinv
    show ∃ C', f_X8_tellPurse_b2B r _ _ _ _ _ = _ ∧ _
    unfold f_X8_tellPurse_b2B
    rw [if_pos (by omega)]
    exact ⟨c, rfl, Ic, h1, h2⟩
theorem c_tellWant (I : CI x S C) {l : Nat} (hl : l < 60) (z : Int) : ∃ C', f_X8_tellWant ((x + 20 : Nat) : Int) (l : Int) z (cS x S C) = some (0, cS x S C') ∧ CI x S C' ∧ (∀ r, r < 30 → C' (20 + 2 + 6 * r + 4) = va_up (C (20 + 2 + 6 * r + 4)) l z) ∧ ∀ i, (∀ r, r < 30 → i ≠ 20 + 2 + 6 * r + 4) → C' i = C i := by
  unfold f_X8_tellWant f_X8_tellWant_b2
  refine lpe (fun (r : Int → Int → Int → Int → fK) i (c : Nat → Nat → Int) => r ((x + 20 : Nat) : Int) (l : Int) z (i : Int) (cS x S c)) (fun n c => CI x S c ∧ (∀ r, r < n → c (20 + 2 + 6 * r + 4) = va_up (C (20 + 2 + 6 * r + 4)) l z) ∧ ∀ i, (∀ r, r < n → i ≠ 20 + 2 + 6 * r + 4) → c i = C i) (fun r => ∃ C', r = some (0, cS x S C') ∧ CI x S C' ∧ (∀ r, r < 30 → C' (20 + 2 + 6 * r + 4) = va_up (C (20 + 2 + 6 * r + 4)) l z) ∧ ∀ i, (∀ r, r < 30 → i ≠ 20 + 2 + 6 * r + 4) → C' i = C i) (N := 30) ?_ ?_ jN 0 C (by omega) (by unfold jN; omega) ⟨I, fun r hr => by omega, fun _ _ => rfl⟩
  · intro r i c hi hinv ih
    obtain ⟨Ic, h1, h2⟩ := hinv
    show ∃ C', f_X8_tellWant_b2B r _ _ _ _ _ = _ ∧ _
    unfold f_X8_tellWant_b2B
    rw [if_neg (by omega), cr20 Ic, show ((x + 21 : Nat) : Int) = ((x + (20 + 1) : Nat) : Int) from rfl, c_row Ic (Or.inl rfl) hi, if_pos (by omega), crh_3 Ic (isH_row hi), sth_4 Ic (isH_row hi) (by omega) (by omega), toNat_z]
    simp only [flet_eq]
    rw [w32_of (by omega) (by omega), zs]
    refine ih _ ⟨CI_ha Ic (isH_row hi) (by omega) (by omega), fun q hq => ?_, fun j hj => ?_⟩
    · by_cases e : q = i
      · subst e
        rw [va_up_self, h2 _ (fun r hr => by omega)]
      · rw [va_up_ne _ _ (by omega), h1 q (by omega)]
    · rw [va_up_ne _ _ (hj i (by omega)), h2 j (fun r hr => hj r (by omega))]
  · intro r c hinv
    obtain ⟨Ic, h1, h2⟩ := hinv
    show ∃ C', f_X8_tellWant_b2B r _ _ _ _ _ = _ ∧ _
    unfold f_X8_tellWant_b2B
    rw [if_pos (by omega)]
    exact ⟨c, rfl, Ic, h1, h2⟩
theorem HX_lot {C' : Nat → Nat → Int} {fl wo we : Int} (h : HX b C o) (hb : b 0 < 12) (hf : 0 ≤ fl ∧ fl ≤ 5) (hwo : 0 ≤ wo ∧ wo ≤ 99) (hwe : 1 ≤ we ∧ we ≤ 9) (h2 : C' (o + 2) = va_up (C (o + 2)) (b 0).toNat fl) (hs : ∀ i, o ≤ i → i ≤ o + 5 → i ≠ o + 2 → C' i = C i) : HX (lotA b fl wo we) C' o := by
  obtain ⟨⟨⟨h7, h8, h9, h5, h5'⟩, HL, HB, HZ1, HZ2, HZ3⟩, ⟨b1, b2⟩, ⟨w0, w1, w2, w3, w4, w7, w8, w9, w10⟩, WL, WB⟩ := h
  have h0 : 0 ≤ b 0 ∧ b 0 < 12 := ⟨w0.1, hb⟩
  have l0 := lotA_0 (a := b) fl wo we h0
  have lH : ∀ k, k ≠ 0 → (k < 11 ∨ 71 ≤ k) → lotA b fl wo we k = b k := fun k q1 q2 => lotA_H fl wo we h0 q1 q2
  have lN : ∀ w, w < 5 → lotA b fl wo we (11 + 5 * (b 0).toNat + w) = if w = 1 then 0 else if w = 2 then wo else if w = 3 then we else fl := fun w hw => lotA_N fl wo we h0 hw
  have n0 : lotA b fl wo we (11 + 5 * (b 0).toNat) = fl := lN 0 (by omega)
  have n1 : lotA b fl wo we (12 + 5 * (b 0).toNat) = 0 := by rw [show 12 + 5 * (b 0).toNat = 11 + 5 * (b 0).toNat + 1 by omega]; exact lN 1 (by omega)
  have n2 : lotA b fl wo we (13 + 5 * (b 0).toNat) = wo := by rw [show 13 + 5 * (b 0).toNat = 11 + 5 * (b 0).toNat + 2 by omega]; exact lN 2 (by omega)
  have n3 : lotA b fl wo we (14 + 5 * (b 0).toNat) = we := by rw [show 14 + 5 * (b 0).toNat = 11 + 5 * (b 0).toNat + 3 by omega]; exact lN 3 (by omega)
  have lO : ∀ l w, l ≠ (b 0).toNat → w < 5 → lotA b fl wo we (11 + 5 * l + w) = b (11 + 5 * l + w) := fun l w q1 q2 => lotA_O fl wo we h0 q1 q2
  have m0 : ∀ l, l ≠ (b 0).toNat → lotA b fl wo we (11 + 5 * l) = b (11 + 5 * l) := fun l q => lO l 0 q (by omega)
  have m1 : ∀ l, l ≠ (b 0).toNat → lotA b fl wo we (12 + 5 * l) = b (12 + 5 * l) := fun l q => by rw [show 12 + 5 * l = 11 + 5 * l + 1 by omega]; exact lO l 1 q (by omega)
  have m2 : ∀ l, l ≠ (b 0).toNat → lotA b fl wo we (13 + 5 * l) = b (13 + 5 * l) := fun l q => by rw [show 13 + 5 * l = 11 + 5 * l + 2 by omega]; exact lO l 2 q (by omega)
  have m3 : ∀ l, l ≠ (b 0).toNat → lotA b fl wo we (14 + 5 * l) = b (14 + 5 * l) := fun l q => by rw [show 14 + 5 * l = 11 + 5 * l + 3 by omega]; exact lO l 3 q (by omega)
  have e1 := lH 1 (by omega) (by omega)
  refine ⟨⟨⟨?_, ?_, ?_, ?_, ?_⟩, fun l hl => ?_, fun q hq => ⟨?_, fun l hl => ?_⟩, fun l hl hl2 => ?_, fun q l hq hl hq2 => ?_, fun q l hq hl hl2 => ?_⟩, ⟨?_, fun i hi => ?_⟩, ⟨?_, ?_, ?_, ?_, ?_, ?_, ?_, ?_, ?_⟩, fun l hl => ?_, fun q hq => ⟨?_, fun l hl => ?_⟩⟩
  · rw [hs o (by omega) (by omega) (by omega), lH 7 (by omega) (by omega)]; exact h7
  · rw [hs o (by omega) (by omega) (by omega), lH 8 (by omega) (by omega)]; exact h8
  · rw [hs o (by omega) (by omega) (by omega), lH 9 (by omega) (by omega)]; exact h9
  · rw [hs o (by omega) (by omega) (by omega)]; exact h5
  · rw [hs o (by omega) (by omega) (by omega)]; exact h5'
  · rw [l0] at hl
    rw [hs (o + 1) (by omega) (by omega) (by omega), h2]
    by_cases e : l = (b 0).toNat
    · subst e
      rw [va_up_self, n0, n1]
      exact ⟨HZ1 _ (by omega) (by omega), rfl⟩
    · rw [va_up_ne _ _ e, m0 l e, m1 l e]
      exact HL l (by omega)
  · rw [e1] at hq
    rw [hs (o + 3) (by omega) (by omega) (by omega), lH _ (by omega) (by omega)]
    exact (HB q hq).1
  · rw [e1] at hq
    rw [hs (o + 4) (by omega) (by omega) (by omega), lH _ (by omega) (by omega)]
    exact (HB q hq).2 l hl
  · rw [l0] at hl2
    rw [hs (o + 1) (by omega) (by omega) (by omega)]
    exact HZ1 l hl (by omega)
  · rw [e1] at hq2
    rw [hs (o + 4) (by omega) (by omega) (by omega)]
    exact HZ2 q l hq hl hq2
  · rw [e1] at hq
    rw [l0] at hl2
    rw [lH _ (by omega) (by omega)]
    exact HZ3 q l hq hl (by omega)
  · rw [hs o (by omega) (by omega) (by omega), lH 10 (by omega) (by omega)]; exact b1
  · rw [lH 10 (by omega) (by omega)] at hi
    rw [hs (o + 5) (by omega) (by omega) (by omega), lH _ (by omega) (by omega), lH _ (by omega) (by omega)]
    exact b2 i hi
  · rw [l0]; omega
  · rw [e1]; exact w1
  · rw [lH 2 (by omega) (by omega)]; exact w2
  · rw [lH 2 (by omega) (by omega), lH 3 (by omega) (by omega)]; exact w3
  · rw [lH 4 (by omega) (by omega)]; exact w4
  · rw [lH 7 (by omega) (by omega)]; exact w7
  · rw [lH 8 (by omega) (by omega)]; exact w8
  · rw [lH 9 (by omega) (by omega)]; exact w9
  · rw [lH 10 (by omega) (by omega)]; exact w10
  · rw [l0] at hl
    rw [e1]
    by_cases e : l = (b 0).toNat
    · subst e
      rw [n0, n1, n2, n3]
      exact ⟨hf, by omega, hwo, hwe⟩
    · rw [m0 l e, m1 l e, m2 l e, m3 l e]
      exact WL l (by omega)
  · rw [e1] at hq
    rw [lH _ (by omega) (by omega)]
    exact (WB q hq).1
  · rw [e1] at hq
    rw [lH _ (by omega) (by omega)]
    exact (WB q hq).2 l hl
theorem HX_bid {C' : Nat → Nat → Int} {p : Int} (h : HX b C o) (hb : b 1 < 5) (hp : 0 ≤ p ∧ p ≤ 9999) (h3 : C' (o + 3) = va_up (C (o + 3)) (b 1).toNat p) (hs : ∀ i, o ≤ i → i ≤ o + 5 → i ≠ o + 3 → C' i = C i) : HX (bidA b p) C' o := by
  obtain ⟨⟨⟨h7, h8, h9, h5, h5'⟩, HL, HB, HZ1, HZ2, HZ3⟩, ⟨b1, b2⟩, ⟨w0, w1, w2, w3, w4, w7, w8, w9, w10⟩, WL, WB⟩ := h
  have h0 : 0 ≤ b 1 ∧ b 1 < 5 := ⟨w1.1, hb⟩
  have l1 : bidA b p 1 = b 1 + 1 := bidA_1 p
  have lH : ∀ k, k ≠ 1 → (k < 71 ∨ 141 ≤ k) → bidA b p k = b k := fun k q1 q2 => bidA_H p h0 q1 q2
  have n0 : bidA b p (71 + 14 * (b 1).toNat) = p := by have := bidA_N (a := b) p (w := 0) (by omega); exact this
  have nw : ∀ l, l < 12 → bidA b p (72 + 14 * (b 1).toNat + l) = 0 := fun l hl => by
    have := bidA_N (a := b) p (w := 1 + l) (by omega)
    rw [if_neg (by omega), show 71 + 14 * (b 1).toNat + (1 + l) = 72 + 14 * (b 1).toNat + l by omega] at this
    exact this
  have m0 : ∀ q, q ≠ (b 1).toNat → bidA b p (71 + 14 * q) = b (71 + 14 * q) := fun q e => by have := bidA_O (a := b) p (b := q) (w := 0) e (by omega); exact this
  have mw : ∀ q l, q ≠ (b 1).toNat → l < 12 → bidA b p (72 + 14 * q + l) = b (72 + 14 * q + l) := fun q l e hl => by
    have := bidA_O (a := b) p (b := q) (w := 1 + l) e (by omega)
    rw [show 71 + 14 * q + (1 + l) = 72 + 14 * q + l by omega] at this
    exact this
  have e0 := lH 0 (by omega) (by omega)
  refine ⟨⟨⟨?_, ?_, ?_, ?_, ?_⟩, fun l hl => ?_, fun q hq => ⟨?_, fun l hl => ?_⟩, fun l hl hl2 => ?_, fun q l hq hl hq2 => ?_, fun q l hq hl hl2 => ?_⟩, ⟨?_, fun i hi => ?_⟩, ⟨?_, ?_, ?_, ?_, ?_, ?_, ?_, ?_, ?_⟩, fun l hl => ?_, fun q hq => ⟨?_, fun l hl => ?_⟩⟩
  · rw [hs o (by omega) (by omega) (by omega), lH 7 (by omega) (by omega)]; exact h7
  · rw [hs o (by omega) (by omega) (by omega), lH 8 (by omega) (by omega)]; exact h8
  · rw [hs o (by omega) (by omega) (by omega), lH 9 (by omega) (by omega)]; exact h9
  · rw [hs o (by omega) (by omega) (by omega)]; exact h5
  · rw [hs o (by omega) (by omega) (by omega)]; exact h5'
  · rw [e0] at hl
    rw [hs (o + 1) (by omega) (by omega) (by omega), hs (o + 2) (by omega) (by omega) (by omega), lH _ (by omega) (by omega), lH _ (by omega) (by omega)]
    exact HL l hl
  · rw [l1] at hq
    rw [h3]
    by_cases e : q = (b 1).toNat
    · subst e
      rw [va_up_self, n0]
    · rw [va_up_ne _ _ e, m0 q e]
      exact (HB q (by omega)).1
  · rw [l1] at hq
    rw [hs (o + 4) (by omega) (by omega) (by omega)]
    by_cases e : q = (b 1).toNat
    · subst e
      rw [nw l hl]
      exact HZ2 _ l (by omega) hl (by omega)
    · rw [mw q l e hl]
      exact (HB q (by omega)).2 l hl
  · rw [e0] at hl2
    rw [hs (o + 1) (by omega) (by omega) (by omega)]
    exact HZ1 l hl hl2
  · rw [l1] at hq2
    rw [hs (o + 4) (by omega) (by omega) (by omega)]
    exact HZ2 q l hq hl (by omega)
  · rw [l1] at hq
    rw [e0] at hl2
    by_cases e : q = (b 1).toNat
    · subst e
      exact nw l hl
    · rw [mw q l e hl]
      exact HZ3 q l (by omega) hl hl2
  · rw [hs o (by omega) (by omega) (by omega), lH 10 (by omega) (by omega)]; exact b1
  · rw [lH 10 (by omega) (by omega)] at hi
    rw [hs (o + 5) (by omega) (by omega) (by omega), lH _ (by omega) (by omega), lH _ (by omega) (by omega)]
    exact b2 i hi
  · rw [e0]; exact w0
  · rw [l1]; omega
  · rw [lH 2 (by omega) (by omega)]; exact w2
  · rw [lH 2 (by omega) (by omega), lH 3 (by omega) (by omega)]; exact w3
  · rw [lH 4 (by omega) (by omega)]; exact w4
  · rw [lH 7 (by omega) (by omega)]; exact w7
  · rw [lH 8 (by omega) (by omega)]; exact w8
  · rw [lH 9 (by omega) (by omega)]; exact w9
  · rw [lH 10 (by omega) (by omega)]; exact w10
  · rw [e0] at hl
    rw [l1, lH (11 + 5 * l) (by omega) (by omega), lH (12 + 5 * l) (by omega) (by omega), lH (13 + 5 * l) (by omega) (by omega), lH (14 + 5 * l) (by omega) (by omega)]
    have := WL l hl
    exact ⟨this.1, ⟨this.2.1.1, by omega⟩, this.2.2⟩
  · rw [l1] at hq
    by_cases e : q = (b 1).toNat
    · subst e
      rw [n0]
      exact hp
    · rw [m0 q e]
      exact (WB q (by omega)).1
  · rw [l1] at hq
    by_cases e : q = (b 1).toNat
    · subst e
      rw [nw l hl]
      omega
    · rw [mw q l e hl]
      exact (WB q (by omega)).2 l hl
theorem HX_wan {C' : Nat → Nat → Int} {n q0 l0 : Nat} {z : Int} (h : HX b C o) (hq0 : (q0 : Int) < b 1) (hl0 : (l0 : Int) < b 0) (hz : 0 ≤ z ∧ z ≤ 99) (hn : n ≤ 30) (h4 : C' (o + 4) = va_up (C (o + 4)) (12 * q0 + l0) z) (hs : ∀ i, o ≤ i → i ≤ o + 5 → i ≠ o + 4 → C' i = C i) : HX (wanA n b q0 l0 z) C' o := by
  obtain ⟨⟨⟨h7, h8, h9, h5, h5'⟩, HL, HB, HZ1, HZ2, HZ3⟩, ⟨b1, b2⟩, ⟨w0, w1, w2, w3, w4, w7, w8, w9, w10⟩, WL, WB⟩ := h
  have lH : ∀ k, k ≠ 72 + 14 * q0 + l0 → (k < 193 ∨ 4843 ≤ k) → wanA n b q0 l0 z k = b k := fun k q1 q2 => by
    unfold wanA
    rw [if_neg q1, if_neg (by omega)]
  have lN : wanA n b q0 l0 z (72 + 14 * q0 + l0) = z := by
    unfold wanA
    rw [if_pos rfl]
  have e0 := lH 0 (by omega) (by omega)
  have e1 := lH 1 (by omega) (by omega)
  refine ⟨⟨⟨?_, ?_, ?_, ?_, ?_⟩, fun l hl => ?_, fun q hq => ⟨?_, fun l hl => ?_⟩, fun l hl hl2 => ?_, fun q l hq hl hq2 => ?_, fun q l hq hl hl2 => ?_⟩, ⟨?_, fun i hi => ?_⟩, ⟨?_, ?_, ?_, ?_, ?_, ?_, ?_, ?_, ?_⟩, fun l hl => ?_, fun q hq => ⟨?_, fun l hl => ?_⟩⟩
  · rw [hs o (by omega) (by omega) (by omega), lH 7 (by omega) (by omega)]; exact h7
  · rw [hs o (by omega) (by omega) (by omega), lH 8 (by omega) (by omega)]; exact h8
  · rw [hs o (by omega) (by omega) (by omega), lH 9 (by omega) (by omega)]; exact h9
  · rw [hs o (by omega) (by omega) (by omega)]; exact h5
  · rw [hs o (by omega) (by omega) (by omega)]; exact h5'
  · rw [e0] at hl
    rw [hs (o + 1) (by omega) (by omega) (by omega), hs (o + 2) (by omega) (by omega) (by omega), lH _ (by omega) (by omega), lH _ (by omega) (by omega)]
    exact HL l hl
  · rw [e1] at hq
    rw [hs (o + 3) (by omega) (by omega) (by omega), lH _ (by omega) (by omega)]
    exact (HB q hq).1
  · rw [e1] at hq
    rw [h4]
    by_cases e : q = q0 ∧ l = l0
    · obtain ⟨rfl, rfl⟩ := e
      rw [va_up_self, lN]
    · rw [va_up_ne _ _ (by omega), lH _ (by omega) (by omega)]
      exact (HB q hq).2 l hl
  · rw [e0] at hl2
    rw [hs (o + 1) (by omega) (by omega) (by omega)]
    exact HZ1 l hl hl2
  · rw [e1] at hq2
    rw [h4, va_up_ne _ _ (by omega)]
    exact HZ2 q l hq hl hq2
  · rw [e1] at hq
    rw [e0] at hl2
    rw [lH _ (by omega) (by omega)]
    exact HZ3 q l hq hl hl2
  · rw [hs o (by omega) (by omega) (by omega), lH 10 (by omega) (by omega)]; exact b1
  · rw [lH 10 (by omega) (by omega)] at hi
    rw [hs (o + 5) (by omega) (by omega) (by omega), lH _ (by omega) (by omega), lH _ (by omega) (by omega)]
    exact b2 i hi
  · rw [e0]; exact w0
  · rw [e1]; exact w1
  · rw [lH 2 (by omega) (by omega)]; exact w2
  · rw [lH 2 (by omega) (by omega), lH 3 (by omega) (by omega)]; exact w3
  · rw [lH 4 (by omega) (by omega)]; exact w4
  · rw [lH 7 (by omega) (by omega)]; exact w7
  · rw [lH 8 (by omega) (by omega)]; exact w8
  · rw [lH 9 (by omega) (by omega)]; exact w9
  · rw [lH 10 (by omega) (by omega)]; exact w10
  · rw [e0] at hl
    rw [e1, lH (11 + 5 * l) (by omega) (by omega), lH (12 + 5 * l) (by omega) (by omega), lH (13 + 5 * l) (by omega) (by omega), lH (14 + 5 * l) (by omega) (by omega)]
    exact WL l hl
  · rw [e1] at hq
    rw [lH _ (by omega) (by omega)]
    exact (WB q hq).1
  · rw [e1] at hq
    by_cases e : q = q0 ∧ l = l0
    · obtain ⟨rfl, rfl⟩ := e
      rw [lN]
      exact hz
    · rw [lH _ (by omega) (by omega)]
      exact (WB q hq).2 l hl
end TB
