def HX (a : Nat → Int) (C : Nat → Nat → Int) (o : Nat) : Prop := Hs a C o ∧ Bk a C o ∧ Wf a
def lenH (j : Nat) : Nat := if j < 3 then 12 else if j = 3 then 5 else if j = 4 then 60 else 120
section ST
variable {x : Nat} {S : jSt} {C : Nat → Nat → Int} {a : Nat → Int} {o d : Nat}
theorem HX_fr {C' : Nat → Nat → Int} (h : HX a C o) (hf : ∀ i, o ≤ i → i ≤ o + 5 → C' i = C i) : HX a C' o := ⟨Hs_fr h.1 hf, Bk_fr h.2.1 hf, h.2.2⟩
theorem HX_cp {C' : Nat → Nat → Int} (h : HX a C o) (e : ∀ k, 5 ≤ k → k ≤ 8 → C' d k = C o k) (ea : ∀ j k, 1 ≤ j → j ≤ 5 → k < lenH j → C' (d + j) k = C (o + j) k) : HX a C' d := by
  obtain ⟨⟨⟨h7, h8, h9, h5, h5'⟩, HL, HB, HZ1, HZ2, HZ3⟩, ⟨b1, b2⟩, W⟩ := h
  obtain ⟨w0, w1, w2, w3, w4, w7, w8, w9, w10⟩ := W.1
  have l1 : lenH 1 = 12 := rfl
  have l2 : lenH 2 = 12 := rfl
  have l3 : lenH 3 = 5 := rfl
  have l4 : lenH 4 = 60 := rfl
  have l5 : lenH 5 = 120 := rfl
  refine ⟨⟨⟨?_, ?_, ?_, ?_, ?_⟩, fun l hl => ?_, fun b hb => ⟨?_, fun l hl => ?_⟩, fun l hl hl2 => ?_, fun b l hb hl hb2 => ?_, HZ3⟩, ⟨?_, fun i hi => ?_⟩, W⟩
  · rw [e 7 (by omega) (by omega)]; exact h7
  · rw [e 6 (by omega) (by omega)]; exact h8
  · rw [e 8 (by omega) (by omega)]; exact h9
  · rw [e 5 (by omega) (by omega)]; exact h5
  · rw [e 5 (by omega) (by omega)]; exact h5'
  · rw [ea 1 l (by omega) (by omega) (by omega), ea 2 l (by omega) (by omega) (by omega)]; exact HL l hl
  · rw [ea 3 b (by omega) (by omega) (by omega)]; exact (HB b hb).1
  · rw [ea 4 _ (by omega) (by omega) (by omega)]; exact (HB b hb).2 l hl
  · rw [ea 1 l (by omega) (by omega) (by omega)]; exact HZ1 l hl hl2
  · rw [ea 4 _ (by omega) (by omega) (by omega)]; exact HZ2 b l hb hl hb2
  · rw [e 5 (by omega) (by omega)]; exact b1
  · rw [ea 5 _ (by omega) (by omega) (by omega), ea 5 _ (by omega) (by omega) (by omega), ea 5 _ (by omega) (by omega) (by omega), ea 5 _ (by omega) (by omega) (by omega)]; exact b2 i hi
theorem HX_eq {n : Nat} {b : Nat → Int} (e : EQ n a b) (h : HX b C o) (h4 : 0 ≤ a 4 ∧ a 4 ≤ 30) : HX a C o := by
  obtain ⟨⟨⟨h7, h8, h9, h5, h5'⟩, HL, HB, HZ1, HZ2, HZ3⟩, ⟨b1, b2⟩, ⟨w0, w1, w2, w3, w4, w7, w8, w9, w10⟩, WL, WB⟩ := h
  obtain ⟨p1, p2, p3, p4, p5, p6⟩ := e
  have e0 := p1 0 (by decide) (by decide)
  have e1 := p1 1 (by decide) (by decide)
  have e2 := p1 2 (by decide) (by decide)
  have e3 := p1 3 (by decide) (by decide)
  have e7 := p1 7 (by decide) (by decide)
  have e8 := p1 8 (by decide) (by decide)
  have e9 := p1 9 (by decide) (by decide)
  have e10 := p1 10 (by decide) (by decide)
  have pw : ∀ q : Nat, (q : Int) < b 1 → ∀ l, l < 12 → a (72 + 14 * q + l) = b (72 + 14 * q + l) := fun q hq l hl => by
    have := p3 q hq (1 + l) (by omega)
    rw [show 71 + 14 * q + (1 + l) = 72 + 14 * q + l by omega] at this
    exact this
  have pp : ∀ q : Nat, (q : Int) < b 1 → a (71 + 14 * q) = b (71 + 14 * q) := fun q hq => p3 q hq 0 (by omega)
  have pl : ∀ l : Nat, (l : Int) < b 0 → a (11 + 5 * l) = b (11 + 5 * l) ∧ a (12 + 5 * l) = b (12 + 5 * l) ∧ a (13 + 5 * l) = b (13 + 5 * l) ∧ a (14 + 5 * l) = b (14 + 5 * l) := fun l hl => by
    have q0 := p2 l hl 0 (by omega)
    have q1 := p2 l hl 1 (by omega)
    have q2 := p2 l hl 2 (by omega)
    have q3 := p2 l hl 3 (by omega)
    rw [show 11 + 5 * l + 1 = 12 + 5 * l by omega] at q1
    rw [show 11 + 5 * l + 2 = 13 + 5 * l by omega] at q2
    rw [show 11 + 5 * l + 3 = 14 + 5 * l by omega] at q3
    exact ⟨q0, q1, q2, q3⟩
  refine ⟨⟨⟨by rw [e7]; exact h7, by rw [e8]; exact h8, by rw [e9]; exact h9, h5, h5'⟩, fun l hl => ?_, fun q hq => ⟨?_, fun l hl => ?_⟩, fun l hl hl2 => ?_, fun q l hq hl hq2 => ?_, fun q l hq hl hl2 => ?_⟩, ⟨by rw [e10]; exact b1, fun i hi => ?_⟩, ⟨by rw [e0]; exact w0, by rw [e1]; exact w1, by rw [e2]; exact w2, by rw [e2, e3]; exact w3, h4, by rw [e7]; exact w7, by rw [e8]; exact w8, by rw [e9]; exact w9, by rw [e10]; exact w10⟩, fun l hl => ?_, fun q hq => ⟨?_, fun l hl => ?_⟩⟩
  · rw [e0] at hl
    rw [(pl l hl).1, (pl l hl).2.1]
    exact HL l hl
  · rw [e1] at hq
    rw [pp q hq]
    exact (HB q hq).1
  · rw [e1] at hq
    rw [pw q hq l hl]
    exact (HB q hq).2 l hl
  · rw [e0] at hl2
    exact HZ1 l hl hl2
  · rw [e1] at hq2
    exact HZ2 q l hq hl hq2
  · rw [e1] at hq
    rw [e0] at hl2
    rw [pw q hq l hl]
    exact HZ3 q l hq hl hl2
  · rw [e10] at hi
    have q0 := p4 (2 * i) (by omega)
    have q1 := p4 (2 * i + 1) (by omega)
    rw [show 4843 + (2 * i + 1) = 4844 + 2 * i by omega] at q1
    rw [q0, q1]
    exact b2 i hi
  · rw [e0] at hl
    rw [e1, (pl l hl).1, (pl l hl).2.1, (pl l hl).2.2.1, (pl l hl).2.2.2]
    exact WL l hl
  · rw [e1] at hq
    rw [pp q hq]
    exact (WB q hq).1
  · rw [e1] at hq
    rw [pw q hq l hl]
    exact (WB q hq).2 l hl
theorem isH_ne (hd : isH d) (ho : isH o) (hne : d ≠ o) {i j : Nat} (hi : i ≤ 5) (hj : j ≤ 5) : o + i ≠ d + j := by
  unfold isH at hd ho
  omega
theorem c_copyFrom (I : CI x S C) (hd : isH d) (ho : isH o) (hne : d ≠ o) : ∃ C', f_X1_copyFrom ((x + d : Nat) : Int) ((x + o : Nat) : Int) (cS x S C) = some (0, cS x S C') ∧ CI x S C' ∧ (∀ i, (i < d ∨ d + 5 < i) → C' i = C i) ∧ (∀ k, 5 ≤ k → k ≤ 8 → C' d k = C o k) ∧ ∀ j k, 1 ≤ j → j ≤ 5 → k < lenH j → C' (d + j) k = C (o + j) k := by
  have dlt := isH_lt hd
  have olt := isH_lt ho
  have ne : ∀ i j, i ≤ 5 → j ≤ 5 → o + i ≠ d + j := fun i j hi hj => isH_ne hd ho hne hi hj
  have ne0 : ∀ j, j ≤ 5 → o ≠ d + j := fun j hj => ne 0 j (by omega) hj
  have cpy : ∀ (C : Nat → Nat → Int) (j : Nat), CI x S C → 1 ≤ j → j ≤ 5 → ∃ C1, (∀ f : jSt → Option (Int × jSt), fcopy (cS x S C) ((x + (o + j) : Nat) : Int) 0 ((x + (d + j) : Nat) : Int) 0 ((lenH j : Nat) : Int) f = f (cS x S C1)) ∧ CI x S C1 ∧ (∀ i, i ≠ d + j → C1 i = C i) ∧ ∀ k, k < lenH j → C1 (d + j) k = C (o + j) k := by
    intro C j I h1 h5
    have tH : ∀ o, isH o → ctyp (o + j) = (1, lenH j) := fun o ho => by
      rw [ct_h ho (by omega)]
      have : j = 1 ∨ j = 2 ∨ j = 3 ∨ j = 4 ∨ j = 5 := by omega
      rcases this with rfl | rfl | rfl | rfl | rfl <;> rfl
    refine ⟨_, fun f => c_cpy I (ni := lenH j) (nj := lenH j) (by omega) (by omega) (tH o ho) (tH d hd) ⟨by omega, by omega, by omega⟩ (by omega) (by omega), CI_ha I hd h1 (by omega), fun i hi => va_up_ne _ _ hi, fun k hk => ?_⟩
    rw [va_up_self]
    unfold va_cpy
    rw [if_pos (by omega)]
    show C (o + j) (0 + (k - 0)) = _
    rw [Nat.zero_add, Nat.sub_zero]
  have sc : ∀ (C : Nat → Nat → Int) (k : Nat) (z : Int), CI x S C → 5 ≤ k → ∃ C1, (∀ f : jSt → Option (Int × jSt), fput (cS x S C) ((x + d : Nat) : Int) 1 k z f = f (cS x S C1)) ∧ CI x S C1 ∧ (∀ i, i ≠ d → C1 i = C i) ∧ (∀ q, q ≠ k → C1 d q = C d q) ∧ C1 d k = z := by
    intro C k z I hk
    refine ⟨_, fun f => cp_h I hd, CI_hs I hd hk, fun i hi => va_up_ne _ _ hi, fun q hq => ?_, ?_⟩
    · rw [va_up_self, va_up_ne _ _ hq]
    · rw [va_up_self, va_up_self]
  obtain ⟨C1, e1, I1, f1, g1⟩ := cpy C 1 I (by omega) (by omega)
  obtain ⟨C2, e2, I2, f2, g2⟩ := cpy C1 2 I1 (by omega) (by omega)
  obtain ⟨C3, e3, I3, f3, g3⟩ := cpy C2 3 I2 (by omega) (by omega)
  obtain ⟨C4, e4, I4, f4, g4⟩ := cpy C3 4 I3 (by omega) (by omega)
  obtain ⟨C5, e5, I5, f5, g5⟩ := cpy C4 5 I4 (by omega) (by omega)
  obtain ⟨C6, e6, I6, f6, g6, h6⟩ := sc C5 5 (C5 o 5) I5 (by omega)
  obtain ⟨C7, e7, I7, f7, g7, h7⟩ := sc C6 6 (C6 o 6) I6 (by omega)
  obtain ⟨C8, e8, I8, f8, g8, h8⟩ := sc C7 7 (C7 o 7) I7 (by omega)
  obtain ⟨C9, e9, I9, f9, g9, h9⟩ := sc C8 8 (C8 o 8) I8 (by omega)
  rw [show ((lenH 1 : Nat) : Int) = 12 from rfl] at e1
  rw [show ((lenH 2 : Nat) : Int) = 12 from rfl] at e2
  rw [show ((lenH 3 : Nat) : Int) = 5 from rfl] at e3
  rw [show ((lenH 4 : Nat) : Int) = 60 from rfl] at e4
  rw [show ((lenH 5 : Nat) : Int) = 120 from rfl] at e5
  have oo := ne0
  refine ⟨C9, ?_, I9, fun i hi => ?_, fun k k5 k8 => ?_, fun j k j1 j5 hk => ?_⟩
  · unfold f_X1_copyFrom
    rw [crh_0 I ho, crh_0 I hd, crh_0 I hd, lnh_1 I hd, e1, crh_1 I1 ho, crh_1 I1 hd, crh_1 I1 hd, lnh_2 I1 hd, e2, crh_2 I2 ho, crh_2 I2 hd, crh_2 I2 hd, lnh_3 I2 hd, e3, crh_3 I3 ho, crh_3 I3 hd, crh_3 I3 hd, lnh_4 I3 hd, e4, crh_4 I4 ho, crh_4 I4 hd, crh_4 I4 hd, lnh_5 I4 hd, e5, cg_h I5 ho, e6, cg_h I6 ho, e7, cg_h I7 ho, e8, cg_h I8 ho, e9]
  · rw [f9 i (by omega), f8 i (by omega), f7 i (by omega), f6 i (by omega), f5 i (by omega), f4 i (by omega), f3 i (by omega), f2 i (by omega), f1 i (by omega)]
  · have d0 : o ≠ d := ne0 0 (by omega)
    have bas : C5 o = C o := by rw [f5 o (ne0 5 (by omega)), f4 o (ne0 4 (by omega)), f3 o (ne0 3 (by omega)), f2 o (ne0 2 (by omega)), f1 o (ne0 1 (by omega))]
    have : k = 5 ∨ k = 6 ∨ k = 7 ∨ k = 8 := by omega
    rcases this with rfl | rfl | rfl | rfl
    · rw [g9 5 (by omega), g8 5 (by omega), g7 5 (by omega), h6, bas]
    · rw [g9 6 (by omega), g8 6 (by omega), h7, f6 o d0, bas]
    · rw [g9 7 (by omega), h8, f7 o d0, f6 o d0, bas]
    · rw [h9, f8 o d0, f7 o d0, f6 o d0, bas]
  · have : j = 1 ∨ j = 2 ∨ j = 3 ∨ j = 4 ∨ j = 5 := by omega
    rw [f9 _ (by omega), f8 _ (by omega), f7 _ (by omega), f6 _ (by omega)]
    rcases this with rfl | rfl | rfl | rfl | rfl
    · rw [f5 _ (by omega), f4 _ (by omega), f3 _ (by omega), f2 _ (by omega), g1 k hk]
    · rw [f5 _ (by omega), f4 _ (by omega), f3 _ (by omega), g2 k hk, f1 _ (ne 2 1 (by omega) (by omega))]
    · rw [f5 _ (by omega), f4 _ (by omega), g3 k hk, f2 _ (ne 3 2 (by omega) (by omega)), f1 _ (ne 3 1 (by omega) (by omega))]
    · rw [f5 _ (by omega), g4 k hk, f3 _ (ne 4 3 (by omega) (by omega)), f2 _ (ne 4 2 (by omega) (by omega)), f1 _ (ne 4 1 (by omega) (by omega))]
    · rw [g5 k hk, f4 _ (ne 5 4 (by omega) (by omega)), f3 _ (ne 5 3 (by omega) (by omega)), f2 _ (ne 5 2 (by omega) (by omega)), f1 _ (ne 5 1 (by omega) (by omega))]
end ST
-- the steps of the class: a ring of rows
def offR (fi cn : Int) (h s j : Nat) : Nat := if j = 0 then h else s + 2 + 6 * ((fi + cn - j) % 30).toNat
def RlS (a : Nat → Int) (C : Nat → Nat → Int) (h s : Nat) : Prop := (C s 2 = a 4 ∧ (0 ≤ C s 1 ∧ C s 1 < 30) ∧ 0 ≤ a 4 ∧ a 4 ≤ 30) ∧ ∀ j : Nat, (j : Int) ≤ a 4 → HX (und j a) C (offR (C s 1) (a 4) h s j)
section ST2
variable {x : Nat} {S : jSt} {C : Nat → Nat → Int} {a : Nat → Int}
theorem isH_row {r : Nat} (hr : r < 30) : isH (20 + 2 + 6 * r) := by unfold isH; omega
theorem isH_row2 {r : Nat} (hr : r < 30) : isH (221 + 2 + 6 * r) := by unfold isH; omega
theorem isH_14 : isH 14 := Or.inl rfl
theorem c_row {s : Nat} (I : CI x S C) (hs : isS s) {r : Nat} (hr : r < 30) {f : Int → Option (Int × jSt)} : fald (cS x S C) ((x + (s + 1) : Nat) : Int) (r : Int) 4 f = f ((x + (s + 2 + 6 * r) : Nat) : Int) := by
  have hc : ctyp (s + 1) = (4, 30) := by rcases hs with rfl | rfl <;> rfl
  have hl : s + 1 < 426 := by rcases hs with rfl | rfl <;> omega
  have hcr : crf (s + 1) r = s + 2 + 6 * r := by
    rcases hs with rfl | rfl
    · show crfS 20 1 r = _
      unfold crfS
      rw [if_neg (by decide), if_pos rfl, if_pos hr]
    · show crfS 221 1 r = _
      unfold crfS
      rw [if_neg (by decide), if_pos rfl, if_pos hr]
  rw [c_al I hl hc (by omega) (by omega), toNat_z, I.2 (s + 1) r hl (by omega), hcr]
theorem HX_ext {a' : Nat → Int} {o : Nat} (h : HX a C o) (h1 : ∀ k, k < 141 → k ≠ 4 → a' k = a k) (h2 : ∀ k, 4843 ≤ k → k < 4903 → a' k = a k) (h4 : 0 ≤ a' 4 ∧ a' 4 ≤ 30) : HX a' C o := by
  have w0 := h.2.2.1.1
  have w1 := h.2.2.1.2.1
  refine HX_eq (n := 0) (b := a) ⟨fun k hk h9 => h1 k (by omega) h9, fun l hl w hw => h1 _ (by omega) (by omega), fun q hq w hw => h1 _ (by omega) (by omega), fun i hi => h2 _ (by omega) (by omega), ⟨by show (0 : Int) ≤ _; omega, by show (0 : Int) ≤ _; have := h.2.2.1.2.2.2.2.1; omega⟩, fun i hi => by omega⟩ h h4
theorem offR_e {fi cn fi' cn' : Int} {h s j j' : Nat} (h0 : j ≠ 0) (h0' : j' ≠ 0) (e : (fi + cn - j) % 30 = (fi' + cn' - j') % 30) : offR fi cn h s j = offR fi' cn' h s j' := by
  unfold offR
  rw [if_neg h0, if_neg h0', e]
theorem offR_ne {fi cn : Int} {s j : Nat} {r : Nat} (hj : j ≠ 0) (hr : (r : Int) ≠ (fi + cn - j) % 30) (hs : s = 20 ∨ s = 221) : ∀ i, offR fi cn 14 s j ≤ i → i ≤ offR fi cn 14 s j + 5 → (i < s + 2 + 6 * r ∨ s + 2 + 6 * r + 5 < i) := by
  unfold offR
  rw [if_neg hj]
  intro i h1 h2
  omega
theorem c_push (I : CI x S C) (h : RlS a C 14 20) : ∃ C', f_X8_push ((x + 20 : Nat) : Int) ((x + 14 : Nat) : Int) (cS x S C) = some (0, cS x S C') ∧ CI x S C' ∧ RlS (keepA a) C' 14 20 ∧ ∀ i, (i < 20 ∨ 201 < i) → C' i = C i := by
  obtain ⟨⟨c2, c1, c4⟩, hj⟩ := h
  have hl := hj 0 (by omega)
  have w0 := hl.2.2.1.1
  have w1 := hl.2.2.1.2.1
  have w0' : a 0 ≤ 12 := w0.2
  have w1' : a 1 ≤ 5 := w1.2
  generalize hfi : C 20 1 = fi at *
  obtain ⟨r, er⟩ : ∃ r : Nat, (fi + a 4) % 30 = (r : Int) := ⟨((fi + a 4) % 30).toNat, by omega⟩
  have hr : r < 30 := by omega
  obtain ⟨C1, v1, I1, f1, g1, k1⟩ := c_copyFrom I (isH_row hr) isH_14 (by omega)
  have e20 : C1 20 = C 20 := f1 20 (by omega)
  have k4 := keepA_4 (a := a) c4
  have hk4 : 0 ≤ keepA a 4 ∧ keepA a 4 ≤ 30 := by rw [k4]; split <;> omega
  -- what holds of the row and of those that stay, whatever the ring's two numbers become
  have rows : ∀ (C2 : Nat → Nat → Int) (fi' : Int), (∀ i, i ≠ 20 → C2 i = C1 i) → C2 20 1 = fi' → C2 20 2 = keepA a 4 → (0 ≤ fi' ∧ fi' < 30) → (fi' + keepA a 4) % 30 = (fi + a 4 + 1) % 30 → RlS (keepA a) C2 14 20 := by
    intro C2 fi' hC q1 q2 q3 q4
    refine ⟨⟨q2, by rw [q1]; exact q3, hk4⟩, fun j hjj => ?_⟩
    rw [q1]
    cases j with
    | zero =>
      show HX (keepA a) C2 14
      have h1 : HX a C2 14 := HX_fr hl (fun i h1 h2 => by rw [hC i (by omega), f1 i (by omega)])
      exact HX_ext h1 (fun k hk h9 => keepA_lo (by omega) h9 c4) (fun k hk _ => keepA_lo (by omega) (by omega) c4) hk4
    | succ j =>
      show HX (und j (undoA (keepA a))) C2 _
      have en := EQ_keep (a := a) c4 w0' w1'
      have hjn : j ≤ if a 4 = 30 then 29 else (a 4).toNat := by
        rw [k4] at hjj
        split
        · rename_i h; rw [if_pos h] at hjj; omega
        · rename_i h; rw [if_neg h] at hjj; omega
      have hja : (j : Int) ≤ a 4 := by
        split at hjn <;> omega
      have u4 : undoA (keepA a) 4 ≤ 30 := by rw [undoA_4]; omega
      have en2 := EQ_und j (n := (if a 4 = 30 then 29 else (a 4).toNat) - j) (by rw [Nat.sub_add_cancel hjn]; exact en) w0' w1' u4 c4.2
      have hu4 : 0 ≤ und j (undoA (keepA a)) 4 ∧ und j (undoA (keepA a)) 4 ≤ 30 := by
        rw [und_4, undoA_4]
        omega
      refine HX_eq en2 ?_ hu4
      have hxj := hj j hja
      cases j with
      | zero =>
        have hx1 : HX a C1 (20 + 2 + 6 * r) := HX_cp hl g1 k1
        have eo : offR fi' (keepA a 4) 14 20 (0 + 1) = 20 + 2 + 6 * r := by
          unfold offR
          rw [if_neg (by decide)]
          omega
        rw [eo]
        exact HX_fr hx1 (fun i h1 h2 => hC i (by omega))
      | succ j =>
        rw [offR_e (fi' := fi) (cn' := a 4) (j' := j + 1) (by omega) (by omega) (by omega)]
        have hne : (r : Int) ≠ (fi + a 4 - ((j + 1 : Nat) : Int)) % 30 := by
          have : (j : Int) + 1 < 30 := by
            split at hjn <;> omega
          omega
        refine HX_fr hxj (fun i h1 h2 => ?_)
        have := offR_ne (s := 20) (by omega) hne (Or.inl rfl) i h1 h2
        have i20 : i ≠ 20 := by
          unfold offR at h1
          rw [if_neg (by omega)] at h1
          omega
        rw [hC i i20, f1 i this]
  unfold f_X8_push f_X8_push_b56
  rw [cr20 I, cg_20 I, cg_20 I, c2, hfi, if_neg (by decide), w32_of (by omega) (by omega), irem_n (by omega) (by omega) (by omega) (by omega), er, show ((x + 21 : Nat) : Int) = ((x + (20 + 1) : Nat) : Int) from rfl, c_row I (Or.inl rfl) hr, if_pos (by omega), cv_h I (isH_row hr), v1, fcall_some, cg_20 I1, e20, c2]
  by_cases h30 : 30 ≤ a 4
  · rw [if_pos h30, cg_20 I1, e20, hfi, if_neg (by decide), w32_of (by omega) (by omega), irem_n (by omega) (by omega) (by omega) (by omega), cp_20 I1]
    refine ⟨_, rfl, CI_up I1 rfl, rows _ ((fi + 1) % 30) (fun i hi => va_up_ne _ _ hi) (by rw [va_up_self, va_up_self]) ?_ (by omega) ?_, fun i hi => by rw [va_up_ne _ _ (by omega), f1 i (by omega)]⟩
    · rw [va_up_self, va_up_ne _ _ (by decide), e20, c2, k4, if_pos (by omega)]
      omega
    · rw [k4, if_pos (by omega)]
      omega
  · rw [if_neg h30, cg_20 I1, e20, c2, w32_of (by omega) (by omega), cp_20 I1]
    refine ⟨_, rfl, CI_up I1 rfl, rows _ fi (fun i hi => va_up_ne _ _ hi) ?_ ?_ c1 ?_, fun i hi => by rw [va_up_ne _ _ (by omega), f1 i (by omega)]⟩
    · rw [va_up_self, va_up_ne _ _ (by decide), e20, hfi]
    · rw [va_up_self, va_up_self, k4, if_neg (by omega)]
    · rw [k4, if_neg (by omega)]
      omega
theorem c_pop (I : CI x S C) (h : RlS a C 14 20) : ∃ C', f_X8_pop ((x + 20 : Nat) : Int) ((x + 14 : Nat) : Int) (cS x S C) = some (if a 4 = 0 then 0 else 1, cS x S C') ∧ CI x S C' ∧ RlS (if a 4 = 0 then a else undoA a) C' 14 20 ∧ ∀ i, (i < 14 ∨ (19 < i ∧ i ≠ 20)) → C' i = C i := by
  have h0 := h
  obtain ⟨⟨c2, c1, c4⟩, hj⟩ := h
  unfold f_X8_pop
  rw [cg_20 I, c2]
  by_cases hz : a 4 = 0
  · rw [if_pos hz, if_pos hz, if_pos hz]
    exact ⟨C, rfl, I, h0, fun _ _ => rfl⟩
  · rw [if_neg hz, if_neg hz, if_neg hz, cg_20 I, c2, w32_of (by omega) (by omega), cp_20 I]
    have I1 : CI x S (va_up C 20 (va_up (C 20) 2 (a 4 - 1))) := CI_up I rfl
    generalize hC1 : va_up C 20 (va_up (C 20) 2 (a 4 - 1)) = C1 at *
    have e1 : C1 20 1 = C 20 1 := by rw [← hC1, va_up_self, va_up_ne _ _ (by decide)]
    have e2 : C1 20 2 = a 4 - 1 := by rw [← hC1, va_up_self, va_up_self]
    have f0 : ∀ i, i ≠ 20 → C1 i = C i := fun i hi => by rw [← hC1, va_up_ne _ _ hi]
    generalize hfi : C 20 1 = fi at *
    obtain ⟨r, er⟩ : ∃ r : Nat, (fi + (a 4 - 1)) % 30 = (r : Int) := ⟨((fi + (a 4 - 1)) % 30).toNat, by omega⟩
    have hr : r < 30 := by omega
    obtain ⟨C2, v2, I2, f2, g2, k2⟩ := c_copyFrom I1 isH_14 (isH_row hr) (by omega)
    rw [cr20 I1, cg_20 I1, cg_20 I1, e1, e2, if_neg (by decide), w32_of (by omega) (by omega), irem_n (by omega) (by omega) (by omega) (by omega), er, show ((x + 21 : Nat) : Int) = ((x + (20 + 1) : Nat) : Int) from rfl, c_row I1 (Or.inl rfl) hr, if_pos (by omega), cv_h I1 isH_14, v2, fcall_some]
    refine ⟨C2, rfl, I2, ⟨⟨?_, ?_, ?_⟩, fun j hjj => ?_⟩, fun i hi => by rw [f2 i (by omega), f0 i (by omega)]⟩
    · rw [f2 20 (by omega), e2, undoA_4]
    · rw [f2 20 (by omega), e1]; exact c1
    · rw [undoA_4]; omega
    · rw [f2 20 (by omega), e1, undoA_4]
      rw [undoA_4] at hjj
      have hx := hj (j + 1) (by omega)
      have hx1 : HX (und (j + 1) a) C1 (offR fi (a 4) 14 20 (j + 1)) := HX_fr hx (fun i h1 h2 => f0 i (by unfold offR at h1; rw [if_neg (by omega)] at h1; omega))
      cases j with
      | zero =>
        have eo : offR fi (a 4) 14 20 (0 + 1) = 20 + 2 + 6 * r := by
          unfold offR
          rw [if_neg (by decide)]
          omega
        rw [eo] at hx1
        exact HX_cp hx1 g2 k2
      | succ j =>
        rw [offR_e (fi' := fi) (cn' := a 4) (j' := j + 1 + 1) (by omega) (by omega) (by omega)]
        exact HX_fr hx1 (fun i h1 h2 => f2 i (by unfold offR at h1; rw [if_neg (by omega)] at h1; omega))
end ST2
