-- selling
def shB (a : Nat → Int) : Nat → Int := if a 10 = 30 then va_up (fillI a 4843 (fun j => a (4845 + j)) 58) 10 29 else a
def bookA (a : Nat → Int) (l b p : Int) : Nat → Int := va_up (va_up (va_up (shB a) (4843 + 2 * (shB a 10).toNat) ((a 7 * 16 + l) * 8 + b)) (4843 + 2 * (shB a 10).toNat + 1) p) 10 (shB a 10 + 1)
def soldA (wr : Bool) (a : Nat → Int) (l w : Nat) (p : Int) : Nat → Int := if wr = true then bookA (va_up (va_up (va_up a (71 + 14 * w) (a (71 + 14 * w) - p)) 8 (clp 99999 (a 8 + p))) (12 + 5 * l) (3 + (w : Int))) l w p else va_up (va_up (va_up a (71 + 14 * w) (a (71 + 14 * w) - p)) 8 (clp 99999 (a 8 + p))) (12 + 5 * l) (3 + (w : Int))
def selA (wr : Bool) (a : Nat → Int) (V : LwV) (l : Nat) : Nat → Int := if winv a V l = -1 then a else soldA wr a l (winv a V l).toNat (pricev a V l)
section CR4
variable {wr : Bool} {x : Nat} {S : jSt} {V : LwV} {C : Nat → Nat → Int} {a : Nat → Int} {o : Nat}
theorem winv_n (W : Wf a) (l : Nat) : winv a V l = -1 ∨ (0 ≤ winv a V l ∧ winv a V l < a 1 ∧ 0 ≤ pricev a V l ∧ pricev a V l ≤ a (71 + 14 * (winv a V l).toNat)) := by
  have hn := bst3_n (fun b => bidv a V b l) (T := 9999) (by omega) (a 1).toNat (fun b hb => by
    have := (W.2.2 b (by omega)).1
    have := bidv_n V b l (a := a) (by omega)
    show 0 ≤ bidv a V b l ∧ bidv a V b l ≤ 9999
    omega)
  unfold winv pricev
  by_cases h : 0 < a 1 ∧ resv a V l ≤ (bst3 (fun b => bidv a V b l) (a 1).toNat).2.1
  · rw [if_pos h]
    obtain ⟨n1, n2, n3, n4, n5⟩ := hn
    obtain ⟨n6, n7⟩ := n4 (by omega)
    have r := resv_n a V l
    right
    refine ⟨n6, by omega, ?_, ?_⟩
    · unfold imax
      split <;> omega
    · have hp := bidv_n V (bst3 (fun b => bidv a V b l) (a 1).toNat).1.toNat l (a := a) (W.2.2 _ (by omega)).1.1
      have n7' : (bst3 (fun b => bidv a V b l) (a 1).toNat).2.1 = bidv a V (bst3 (fun b => bidv a V b l) (a 1).toNat).1.toNat l := n7
      unfold imax
      split <;> omega
  · rw [if_neg h]
    exact Or.inl rfl
theorem c_canSell (I : CI x S C) (T : Td a C 1) (W : WfN a) (H : Hs a C o) (ho : isH o) (l : Int) : f_X5_canSell ((x + 413 : Nat) : Int) ((x + o : Nat) : Int) l (cS x S C) = some (b01 ((0 ≤ l ∧ l < a 0) ∧ a (12 + 5 * l.toNat) = 0 ∧ 0 < a 1), cS x S C) := by
  unfold f_X5_canSell f_X5_canSell_b34 f_X5_canSell_b35
  have w0 := W.1
  rw [cr413_2 I, cv_1 I, c_hasLot I T W, fcall_some, if_b01]
  by_cases h : 0 ≤ l ∧ l < a 0
  · rw [if_pos h, crh_0 I ho, alh_1 I ho h.1 (by omega), (H.2.1 l.toNat (nlt h.1 h.2)).1]
    by_cases h2 : a (12 + 5 * l.toNat) = 0
    · rw [if_pos h2, cr413_2 I, cg_1 I, T.2.1]
      unfold b01
      by_cases h3 : a 1 ≤ 0
      · rw [if_pos h3, if_neg (by omega)]
      · rw [if_neg h3, if_pos (by omega)]
    · rw [if_neg h2]
      unfold b01
      rw [if_neg (fun q => h2 q.2.1)]
  · rw [if_neg h]
    unfold b01
    rw [if_neg (fun q => h q.1)]
/-- what was looked at last -/
def wnv (a : Nat → Int) (V : LwV) (l : Nat) : Int := if a (12 + 5 * l) = 0 then winv a V l else -1
theorem c_findWinner (ho : isH o) (h : HR wr x S V a C o) {l : Nat} (hl : (l : Int) < a 0) : ∃ C', f_X5_findWinner ((x + 413 : Nat) : Int) ((x + o : Nat) : Int) (l : Int) (cS x S C) = some (0, cS x S C') ∧ HR wr x S V a C' o ∧ (C' 413 0 = wnv a V l ∧ C' 413 1 = if wnv a V l = -1 then -1 else pricev a V l) ∧ ∀ i, i ≠ 413 → i ≠ 415 → i ≠ 416 → C' i = C i := by
  have h0 := h
  obtain ⟨I, T, H, W, L, B⟩ := h
  obtain ⟨w0, w1, _⟩ := W.1
  have e413 : crf 413 0 = 0 := rfl
  have e4131 : crf 413 1 = 0 := rfl
  have I1 : CI x S (va_up C 413 (va_up (C 413) 0 (-1))) := CI_up I rfl
  have I2 : CI x S (va_up (va_up C 413 (va_up (C 413) 0 (-1))) 413 (va_up (va_up C 413 (va_up (C 413) 0 (-1)) 413) 1 (-1))) := CI_up I1 rfl
  have g0 : (va_up (va_up C 413 (va_up (C 413) 0 (-1))) 413 (va_up (va_up C 413 (va_up (C 413) 0 (-1)) 413) 1 (-1))) 413 0 = -1 := by
    simp only [va_up_self]
    rw [va_up_ne _ _ (by decide), va_up_self]
  have g1 : (va_up (va_up C 413 (va_up (C 413) 0 (-1))) 413 (va_up (va_up C 413 (va_up (C 413) 0 (-1)) 413) 1 (-1))) 413 1 = -1 := by
    simp only [va_up_self]
  have gf : ∀ i, i ≠ 413 → (va_up (va_up C 413 (va_up (C 413) 0 (-1))) 413 (va_up (va_up C 413 (va_up (C 413) 0 (-1)) 413) 1 (-1))) i = C i := fun i hi => by
    rw [va_up_ne _ _ hi, va_up_ne _ _ hi]
  unfold f_X5_findWinner
  rw [cp_413 I, cp_413 I1]
  generalize hC2 : (va_up (va_up C 413 (va_up (C 413) 0 (-1))) 413 (va_up (va_up C 413 (va_up (C 413) 0 (-1)) 413) 1 (-1))) = C2 at *
  have h2 : HR wr x S V a C2 o := HR_fr ho h0 I2 (fun i q _ _ => gf i q)
  rw [cv_413 I2, c_canSell I2 h2.2.1 W.1 h2.2.2.1 ho, fcall_some, if_b01, toNat_z]
  by_cases hs : (0 ≤ (l : Int) ∧ (l : Int) < a 0) ∧ a (12 + 5 * l) = 0 ∧ 0 < a 1
  · rw [if_pos hs]
    have hw : wnv a V l = winv a V l := by unfold wnv; rw [if_pos hs.2.1]
    rw [hw]
    unfold f_X5_findWinner_b28
    refine lpe (fun (r : Int → Int → Int → Int → Int → Int → fK) i (c : Nat → Nat → Int) => r ((x + 413 : Nat) : Int) ((x + o : Nat) : Int) (l : Int) (bst3 (fun b => bidv a V b l) i).2.1 (bst3 (fun b => bidv a V b l) i).2.2 (i : Int) (cS x S c)) (fun i c => CI x S c ∧ (c 413 0 = (bst3 (fun b => bidv a V b l) i).1 ∧ c 413 1 = -1) ∧ ∀ i, i ≠ 413 → i ≠ 415 → i ≠ 416 → c i = C i) (fun r => ∃ C', r = some (0, cS x S C') ∧ HR wr x S V a C' o ∧ (C' 413 0 = winv a V l ∧ C' 413 1 = if winv a V l = -1 then -1 else pricev a V l) ∧ ∀ i, i ≠ 413 → i ≠ 415 → i ≠ 416 → C' i = C i) (N := (a 1).toNat) ?_ ?_ jN 0 C2 (by omega) (by unfold jN; omega) ⟨I2, ⟨g0, g1⟩, fun i q _ _ => gf i q⟩
    · intro r i c hi hinv ih
      obtain ⟨Ic, ⟨c0, c1⟩, cf⟩ := hinv
      have hc : HR wr x S V a c o := HR_fr ho h0 Ic cf
      show ∃ C', f_X5_findWinner_b28B r _ _ _ _ _ _ _ = _ ∧ _
      unfold f_X5_findWinner_b28B f_X5_findWinner_b82
      obtain ⟨c', v1, I', f'⟩ := c_bidOf ho hc (b := i) (l := l) (by omega) hl
      rw [cr413_2 Ic, cg_1 Ic, hc.2.1.2.1, if_neg (by omega), cv_413 Ic, v1, fcall_some]
      simp only [flet_eq]
      rw [w32_of (by omega) (by omega), zs]
      have cf' : ∀ j, j ≠ 413 → j ≠ 415 → j ≠ 416 → c' j = C j := fun j q1 q2 q3 => (f' j q2 q3).trans (cf j q1 q2 q3)
      have e13 : c' 413 = c 413 := f' 413 (by decide) (by decide)
      by_cases q : bidv a V i l ≤ (bst3 (fun b => bidv a V b l) i).2.1
      · rw [if_pos q]
        have eb : bst3 (fun b => bidv a V b l) (i + 1) = ((bst3 (fun b => bidv a V b l) i).1, (bst3 (fun b => bidv a V b l) i).2.1, if (bst3 (fun b => bidv a V b l) i).2.2 < bidv a V i l then bidv a V i l else (bst3 (fun b => bidv a V b l) i).2.2) := by
          conv => lhs; unfold bst3
          rw [if_neg (by omega)]
        have ih' := ih c' ⟨I', ⟨by rw [e13, c0, eb], by rw [e13, c1]⟩, cf'⟩
        simp only [eb] at ih'
        by_cases q2 : bidv a V i l ≤ (bst3 (fun b => bidv a V b l) i).2.2
        · rw [if_pos q2]
          rw [if_neg (by omega)] at ih'
          exact ih'
        · rw [if_neg q2]
          rw [if_pos (by omega)] at ih'
          exact ih'
      · rw [if_neg q, cp_413 I']
        have eb : bst3 (fun b => bidv a V b l) (i + 1) = ((i : Int), bidv a V i l, (bst3 (fun b => bidv a V b l) i).2.1) := by
          conv => lhs; unfold bst3
          rw [if_pos (by omega)]
        have ih' := ih (va_up c' 413 (va_up (c' 413) 0 (i : Int))) ⟨CI_up I' rfl, ⟨by rw [va_up_self, va_up_self, eb], by rw [va_up_self, va_up_ne _ _ (by decide), e13, c1]⟩, fun j q1 q2 q3 => by rw [va_up_ne _ _ q1]; exact cf' j q1 q2 q3⟩
        simp only [eb] at ih'
        exact ih'
    · intro r c hinv
      obtain ⟨Ic, ⟨c0, c1⟩, cf⟩ := hinv
      have hc : HR wr x S V a c o := HR_fr ho h0 Ic cf
      show ∃ C', f_X5_findWinner_b28B r _ _ _ _ _ _ _ = _ ∧ _
      unfold f_X5_findWinner_b28B
      obtain ⟨c', v1, I', f'⟩ := c_reserveFor ho hc hl
      have cf' : ∀ j, j ≠ 413 → j ≠ 415 → j ≠ 416 → c' j = C j := fun j q1 q2 q3 => (f' j q2 q3).trans (cf j q1 q2 q3)
      have e13 : c' 413 = c 413 := f' 413 (by decide) (by decide)
      rw [cr413_2 Ic, cg_1 Ic, hc.2.1.2.1, if_pos (by omega), cv_413 Ic, v1, fcall_some]
      by_cases q : resv a V l ≤ (bst3 (fun b => bidv a V b l) (a 1).toNat).2.1
      · have ew : winv a V l = (bst3 (fun b => bidv a V b l) (a 1).toNat).1 := by unfold winv; rw [if_pos ⟨hs.2.2, q⟩]
        have hw1 : ¬ winv a V l = -1 := by
          have hn := bst3_n (fun b => bidv a V b l) (T := 9999) (by omega) (a 1).toNat (fun b hb => by
            have := (W.2.2 b (by omega)).1
            have := bidv_n V b l (a := a) (by omega)
            show 0 ≤ bidv a V b l ∧ bidv a V b l ≤ 9999
            omega)
          have := (hn.2.2.2.1 (by omega)).1
          omega
        rw [if_pos q, cp_413 I']
        refine ⟨_, rfl, HR_fr ho h0 (CI_up I' rfl) (fun j q1 q2 q3 => by rw [va_up_ne _ _ q1]; exact cf' j q1 q2 q3), ⟨?_, ?_⟩, fun j q1 q2 q3 => by rw [va_up_ne _ _ q1]; exact cf' j q1 q2 q3⟩
        · rw [va_up_self, va_up_ne _ _ (by decide), e13, c0, ew]
        · rw [va_up_self, va_up_self, if_neg hw1]
          rfl
      · have ew : winv a V l = -1 := by unfold winv; rw [if_neg (fun z => q z.2)]
        rw [if_neg q, cp_413 I']
        refine ⟨_, rfl, HR_fr ho h0 (CI_up I' rfl) (fun j q1 q2 q3 => by rw [va_up_ne _ _ q1]; exact cf' j q1 q2 q3), ⟨?_, ?_⟩, fun j q1 q2 q3 => by rw [va_up_ne _ _ q1]; exact cf' j q1 q2 q3⟩
        · rw [va_up_self, va_up_self, ew]
        · rw [va_up_self, va_up_ne _ _ (by decide), e13, c1, if_pos ew]
  · rw [if_neg hs]
    have ew : wnv a V l = -1 := by
      unfold wnv
      by_cases q : a (12 + 5 * l) = 0
      · rw [if_pos q]
        unfold winv
        rw [if_neg (fun z => hs ⟨⟨by omega, hl⟩, q, z.1⟩)]
      · rw [if_neg q]
    refine ⟨C2, rfl, h2, ⟨by rw [g0, ew], by rw [g1, if_pos ew]⟩, fun i q _ _ => gf i q⟩
end CR4
