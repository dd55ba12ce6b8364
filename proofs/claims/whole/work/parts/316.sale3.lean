theorem gS_set {x N : Nat} {S : jSt} {C : Nat → Nat → Int} {i : Nat} (hi : i < N) (v : Nat → Int) : (((gS x N S C).1, (gS x N S C).2.1, (gS x N S C).2.2.1, va_up (gS x N S C).2.2.2 (x + i) v) : jSt) = gS x N S (va_up C i v) := by
  unfold gS
  show ((S.1, S.2.1, S.2.2.1, va_up (fun p => if x ≤ p ∧ p < x + N then C (p - x) else S.2.2.2 p) (x + i) v) : jSt) = (S.1, S.2.1, S.2.2.1, fun p => if x ≤ p ∧ p < x + N then va_up C i v (p - x) else S.2.2.2 p)
  congr 3
  funext p
  unfold va_up
  by_cases hp : p = x + i
  · subst hp
    simp only [if_true, Nat.add_sub_cancel_left, if_pos (show x ≤ x + i ∧ x + i < x + N from ⟨by omega, by omega⟩)]
  · rw [if_neg hp]
    show (if x ≤ p ∧ p < x + N then C (p - x) else S.2.2.2 p) = _
    by_cases hr : x ≤ p ∧ p < x + N
    · rw [if_pos hr, if_pos hr, if_neg (by omega)]
    · rw [if_neg hr, if_neg hr]
theorem c_cpy {x : Nat} {S : jSt} {C : Nat → Nat → Int} (I : CI x S C) {i j ni nj : Nat} {sp dp n : Int} {f : jSt → Option (Int × jSt)} (hi : i < 426) (hj : j < 426) (ti : ctyp i = (1, ni)) (tj : ctyp j = (1, nj)) (h0 : 0 ≤ sp ∧ 0 ≤ dp ∧ 0 ≤ n) (h1 : sp + n ≤ (ni : Int)) (h2 : dp + n ≤ (nj : Int)) : fcopy (cS x S C) ((x + i : Nat) : Int) sp ((x + j : Nat) : Int) dp n f = f (cS x S (va_up C j (va_cpy (C i) (C j) sp.toNat dp.toNat n.toNat))) := by
  unfold fcopy
  have t1 : jty (cS x S C) ((x + i : Nat) : Int) = (1, ni) := by rw [gS_ty, gS_tyn]; exact (I.1 i hi).trans ti
  have t2 : jty (cS x S C) ((x + j : Nat) : Int) = (1, nj) := by rw [gS_ty, gS_tyn]; exact (I.1 j hj).trans tj
  have e1 : (cS x S C).2.2.2 (x + i) = C i := by
    show (if x ≤ x + i ∧ x + i < x + 426 then C (x + i - x) else S.2.2.2 (x + i)) = _
    rw [if_pos ⟨by omega, by omega⟩, Nat.add_sub_cancel_left]
  have e2 : (cS x S C).2.2.2 (x + j) = C j := by
    show (if x ≤ x + j ∧ x + j < x + 426 then C (x + j - x) else S.2.2.2 (x + j)) = _
    rw [if_pos ⟨by omega, by omega⟩, Nat.add_sub_cancel_left]
  rw [t1, t2, if_pos ⟨⟨rfl, rfl⟩, h0, h1, h2⟩, Int.toNat_natCast, Int.toNat_natCast, e1, e2, gS_set hj]
-- the book
def shC (C : Nat → Nat → Int) (o : Nat) : Nat → Nat → Int := if C o 5 < 30 then C else va_up (va_up C (o + 5) (va_cpy (C (o + 5)) (C (o + 5)) 4 0 116)) o (va_up (C o) 5 29)
def bkC (C : Nat → Nat → Int) (o : Nat) (l b p : Int) : Nat → Nat → Int := va_up (va_up C (o + 5) (va_up (va_up (va_up (va_up (C (o + 5)) (4 * (C o 5).toNat) (C o 7)) (4 * (C o 5).toNat + 1) l) (4 * (C o 5).toNat + 2) b) (4 * (C o 5).toNat + 3) p)) o (va_up (C o) 5 (C o 5 + 1))
def wdC (C : Nat → Nat → Int) (o : Nat) (l b p : Int) : Nat → Nat → Int := bkC (shC C o) o l b p
section CR5
variable {wr : Bool} {x : Nat} {S : jSt} {V : LwV} {C : Nat → Nat → Int} {a : Nat → Int} {o : Nat}
theorem c_wd35 (I : CI x S C) (ho : isH o) (h5 : 0 ≤ C o 5 ∧ C o 5 < 30) (l b p : Int) : f_X1_writeDown_b35 ((x + o : Nat) : Int) l b p (cS x S C) = some (0, cS x S (bkC C o l b p)) := by
  have o1 : o ≠ o + 5 := by omega
  have e0 : (C o 5 * 4).toNat = 4 * (C o 5).toNat := by omega
  have e1 : (C o 5 * 4 + 1).toNat = 4 * (C o 5).toNat + 1 := by omega
  have e2 : (C o 5 * 4 + 2).toNat = 4 * (C o 5).toNat + 2 := by omega
  have e3 : (C o 5 * 4 + 3).toNat = 4 * (C o 5).toNat + 3 := by omega
  have J1 : ∀ v, CI x S (va_up C (o + 5) v) := fun v => CI_ha I ho (by omega) (by omega)
  unfold f_X1_writeDown_b35
  rw [cg_h I ho, flet_eq, w32_of (z := C o 5 * 4) (by omega) (by omega), crh_4 I ho, cg_h I ho, sth_5 I ho (by omega) (by omega), crh_4 (J1 _) ho]
  rw [w32_of (z := C o 5 * 4 + 1) (by omega) (by omega), w32_of (z := C o 5 * 4 + 2) (by omega) (by omega), w32_of (z := C o 5 * 4 + 3) (by omega) (by omega)]
  simp (disch := first | omega | exact ho | exact J1 _) only [crh_4, sth_5, va_up_self, va_uu, cg_h, cp_h, va_up_ne, e0, e1, e2, e3, w32_of]
  rfl
theorem shC_n (I : CI x S C) (ho : isH o) : CI x S (shC C o) := by
  unfold shC
  split
  · exact I
  · have h := CI_hs (k := 5) (z := 29) (CI_ha I ho (v := va_cpy (C (o + 5)) (C (o + 5)) 4 0 116) (j := 5) (by omega) (by omega)) ho (by omega)
    rw [va_up_ne _ _ (show o ≠ o + 5 by omega)] at h
    exact h
theorem c_writeDown (I : CI x S C) (ho : isH o) (h5 : 0 ≤ C o 5 ∧ C o 5 ≤ 30) (l b p : Int) : f_X1_writeDown ((x + o : Nat) : Int) l b p (cS x S C) = some (0, cS x S (wdC C o l b p)) := by
  unfold f_X1_writeDown wdC
  rw [cg_h I ho]
  by_cases h : C o 5 < 30
  · rw [if_pos h, c_wd35 I ho ⟨h5.1, h⟩]
    unfold shC
    rw [if_pos h]
  · have J := shC_n I ho
    rw [if_neg h, crh_4 I ho, crh_4 I ho, crh_4 I ho, lnh_5 I ho, show w32 (120 - 4) = 116 by decide, c_cpy I (ni := 120) (nj := 120) (by have := isH_lt ho; omega) (by have := isH_lt ho; omega) (ct_h ho (by decide)) (ct_h ho (by decide)) (by decide) (by decide) (by decide), cp_h (CI_ha I ho (by omega) (by omega)) ho]
    have e : va_up (va_up C (o + 5) (va_cpy (C (o + 5)) (C (o + 5)) (4 : Int).toNat (0 : Int).toNat (116 : Int).toNat)) o (va_up (va_up C (o + 5) (va_cpy (C (o + 5)) (C (o + 5)) (4 : Int).toNat (0 : Int).toNat (116 : Int).toNat) o) 5 29) = shC C o := by
      unfold shC
      rw [if_neg h, va_up_ne _ _ (show o ≠ o + 5 by omega)]
      rfl
    rw [e, c_wd35 J ho (by unfold shC; rw [if_neg h, va_up_self, va_up_self]; omega)]
theorem bookA_lo (a : Nat → Int) (l b p : Int) {k : Nat} (h : k < 4843) (h2 : k ≠ 10) : bookA a l b p k = a k := by
  unfold bookA
  rw [va_up_ne _ _ h2, va_up_ne _ _ (by omega), va_up_ne _ _ (by omega)]
  unfold shB
  split
  · rw [va_up_ne _ _ h2, fillI_out (by omega)]
  · rfl
theorem wdC_o (C : Nat → Nat → Int) (o : Nat) (l b p : Int) {i : Nat} (h : i ≠ o) (h2 : i ≠ o + 5) : wdC C o l b p i = C i := by
  unfold wdC bkC shC
  rw [va_up_ne _ _ h, va_up_ne _ _ h2]
  split
  · rfl
  · rw [va_up_ne _ _ h, va_up_ne _ _ h2]
theorem wdC_s (C : Nat → Nat → Int) (o : Nat) (l b p : Int) {k : Nat} (h : k ≠ 5) : wdC C o l b p o k = C o k := by
  unfold wdC bkC shC
  rw [va_up_self, va_up_ne _ _ h]
  split
  · rfl
  · rw [va_up_self, va_up_ne _ _ h]
theorem wdC_5 (C : Nat → Nat → Int) (o : Nat) (l b p : Int) (h : C o 5 ≤ 30) : wdC C o l b p o 5 = if C o 5 < 30 then C o 5 + 1 else 30 := by
  unfold wdC bkC shC
  rw [va_up_self, va_up_self]
  split
  · rfl
  · rw [va_up_self, va_up_self]
    rfl
theorem Bk_book (B : Bk a C o) (h7 : C o 7 = a 7 ∧ 0 ≤ a 7 ∧ a 7 ≤ 9999) (h10 : 0 ≤ a 10 ∧ a 10 ≤ 30) {l b p : Int} (hl : 0 ≤ l ∧ l < 12) (hb : 0 ≤ b ∧ b < 5) (hp : 0 ≤ p ∧ p ≤ 9999) : Bk (bookA a l b p) (wdC C o l b p) o := by
  have key : ∀ (a : Nat → Int) (C : Nat → Nat → Int), Bk a C o → (C o 7 = a 7 ∧ 0 ≤ a 7 ∧ a 7 ≤ 9999) → (0 ≤ a 10 ∧ a 10 < 30) → Bk (va_up (va_up (va_up a (4843 + 2 * (a 10).toNat) ((a 7 * 16 + l) * 8 + b)) (4843 + 2 * (a 10).toNat + 1) p) 10 (a 10 + 1)) (bkC C o l b p) o := by
    intro a C B h7 h10
    obtain ⟨b1, b2⟩ := B
    unfold bkC
    rw [b1]
    refine ⟨by simp only [va_up_self], fun i hi => ?_⟩
    rw [va_up_self] at hi
    rw [va_up_ne _ _ (show o + 5 ≠ o by omega), va_up_self]
    by_cases hin : i = (a 10).toNat
    · subst hin
      simp (disch := omega) only [va_up_ne, va_up_self]
      rw [show 4844 + 2 * (a 10).toNat = 4843 + 2 * (a 10).toNat + 1 by omega]
      simp (disch := omega) only [va_up_ne, va_up_self]
      rw [h7.1]
      exact ⟨h7.2, hl, hb, hp, rfl, trivial⟩
    · simp (disch := omega) only [va_up_ne]
      exact b2 i (by omega)
  unfold bookA wdC
  have e7 : shB a 7 = a 7 := by
    unfold shB
    split
    · rw [va_up_ne _ _ (by decide), fillI_out (by omega)]
    · rfl
  rw [← e7]
  by_cases h : a 10 = 30
  · have eB : shB a = va_up (fillI a 4843 (fun j => a (4845 + j)) 58) 10 29 := by unfold shB; rw [if_pos h]
    have eC : shC C o = va_up (va_up C (o + 5) (va_cpy (C (o + 5)) (C (o + 5)) 4 0 116)) o (va_up (C o) 5 29) := by unfold shC; rw [if_neg (by rw [B.1]; omega)]
    refine key (shB a) (shC C o) ?_ ?_ ?_
    · rw [eB, eC]
      refine ⟨by simp only [va_up_self], fun i hi => ?_⟩
      rw [va_up_self] at hi
      rw [va_up_ne _ _ (show o + 5 ≠ o by omega), va_up_self, va_up_ne _ _ (by omega), va_up_ne _ _ (by omega), fillI_in (by omega), show 4844 + 2 * i = 4843 + (2 * i + 1) by omega, fillI_in (by omega)]
      have := B.2 (i + 1) (by omega)
      unfold va_cpy
      rw [if_pos (by omega), if_pos (by omega), if_pos (by omega), if_pos (by omega), show 4 + (4 * i - 0) = 4 * (i + 1) by omega, show 4 + (4 * i + 1 - 0) = 4 * (i + 1) + 1 by omega, show 4 + (4 * i + 2 - 0) = 4 * (i + 1) + 2 by omega, show 4 + (4 * i + 3 - 0) = 4 * (i + 1) + 3 by omega, show 4845 + 2 * i = 4843 + 2 * (i + 1) by omega, show 4845 + (2 * i + 1) = 4844 + 2 * (i + 1) by omega]
      exact this
    · rw [e7, eC, va_up_self, va_up_ne _ _ (by decide)]
      exact h7
    · rw [eB, va_up_self]
      omega
  · have eB : shB a = a := by unfold shB; rw [if_neg h]
    have eC : shC C o = C := by unfold shC; rw [if_pos (by rw [B.1]; omega)]
    rw [eB, eC]
    exact key a C B h7 ⟨h10.1, by omega⟩
theorem HR_book (ho : isH o) (h : HR wr x S V a C o) {l b p : Int} (hl : 0 ≤ l ∧ l < 12) (hb : 0 ≤ b ∧ b < 5) (hp : 0 ≤ p ∧ p ≤ 9999) : HR wr x S V (if wr = true then bookA a l b p else a) (wdC C o l b p) o := by
  obtain ⟨I, T, ⟨⟨h7, h8, h9, h5, h5'⟩, HL, HB, HZ1, HZ2, HZ3⟩, ⟨⟨w0, w1, w2, w3, w4, w7, w8, w9, w10⟩, WL, WB⟩, L, B⟩ := h
  have o14 : 14 ≤ o := by unfold isH at ho; omega
  have IJ : CI x S (wdC C o l b p) := by
    have J := shC_n I ho
    unfold wdC bkC
    have h := CI_hs (k := 5) (z := shC C o o 5 + 1) (CI_ha J ho (v := va_up (va_up (va_up (va_up (shC C o (o + 5)) (4 * (shC C o o 5).toNat) (shC C o o 7)) (4 * (shC C o o 5).toNat + 1) l) (4 * (shC C o o 5).toNat + 2) b) (4 * (shC C o o 5).toNat + 3) p) (j := 5) (by omega) (by omega)) ho (by omega)
    rw [va_up_ne _ _ (show o ≠ o + 5 by omega)] at h
    exact h
  have ea : ∀ k, k < 4843 → k ≠ 10 → (if wr = true then bookA a l b p else a) k = a k := fun k h1 h2 => by
    split
    · exact bookA_lo a l b p h1 h2
    · rfl
  generalize hA : (if wr = true then bookA a l b p else a) = A at *
  have eC : ∀ i, i ≠ o → i ≠ o + 5 → wdC C o l b p i = C i := fun i h1 h2 => wdC_o C o l b p h1 h2
  have e5 := wdC_5 C o l b p h5'
  have eS : ∀ k, k ≠ 5 → wdC C o l b p o k = C o k := fun k hk => wdC_s C o l b p hk
  have h10 : 0 ≤ A 10 ∧ A 10 ≤ 30 := by
    rw [← hA]
    split
    · rename_i hw
      have := Bk_book (B hw) ⟨h7, w7⟩ w10 hl hb hp
      rw [← this.1, e5]
      split <;> omega
    · exact w10
  refine ⟨IJ, ⟨?_, ?_, ?_, ?_, ?_⟩, ⟨⟨?_, ?_, ?_, ?_, ?_⟩, ?_, ?_, ?_, ?_, ?_⟩, ⟨⟨?_, ?_, ?_, ?_, ?_, ?_, ?_, ?_, h10⟩, ?_, ?_⟩, ?_, ?_⟩
  · rw [eC _ (by omega) (by omega), ea _ (by omega) (by omega)]; exact T.1
  · rw [eC _ (by omega) (by omega), ea _ (by omega) (by omega)]; exact T.2.1
  · rw [eC _ (by omega) (by omega), ea _ (by omega) (by omega)]; exact T.2.2.1
  · rw [eC _ (by omega) (by omega), ea _ (by omega) (by omega)]; exact T.2.2.2.1
  · intro q hq
    rw [ea _ (by omega) (by omega)] at hq
    rw [eC _ (by omega) (by omega), eC _ (by omega) (by omega), ea _ (by omega) (by omega), ea _ (by omega) (by omega)]
    exact T.2.2.2.2 q hq
  · rw [eS _ (by decide), ea _ (by omega) (by omega)]; exact h7
  · rw [eS _ (by decide), ea _ (by omega) (by omega)]; exact h8
  · rw [eS _ (by decide), ea _ (by omega) (by omega)]; exact h9
  · rw [e5]; split <;> omega
  · rw [e5]; split <;> omega
  · intro q hq
    rw [ea _ (by omega) (by omega)] at hq
    rw [eC _ (by omega) (by omega), eC _ (by omega) (by omega), ea _ (by omega) (by omega), ea _ (by omega) (by omega)]
    exact HL q hq
  · intro q hq
    rw [ea _ (by omega) (by omega)] at hq
    rw [eC _ (by omega) (by omega), eC _ (by omega) (by omega), ea _ (by omega) (by omega)]
    refine ⟨(HB q hq).1, fun q2 h2 => ?_⟩
    rw [ea _ (by omega) (by omega)]
    exact (HB q hq).2 q2 h2
  · intro q hq hq1
    rw [ea _ (by omega) (by omega)] at hq1
    rw [eC _ (by omega) (by omega)]
    exact HZ1 q hq hq1
  · intro q q2 hq hq2 hq1
    rw [ea _ (by omega) (by omega)] at hq1
    rw [eC _ (by omega) (by omega)]
    exact HZ2 q q2 hq hq2 hq1
  · intro q q2 hq hq2 hq1
    rw [ea _ (by omega) (by omega)] at hq hq1
    rw [ea _ (by omega) (by omega)]
    exact HZ3 q q2 hq hq2 hq1
  · rw [ea _ (by omega) (by omega)]; exact w0
  · rw [ea _ (by omega) (by omega)]; exact w1
  · rw [ea _ (by omega) (by omega)]; exact w2
  · rw [ea 3 (by omega) (by omega), ea 2 (by omega) (by omega)]; exact w3
  · rw [ea _ (by omega) (by omega)]; exact w4
  · rw [ea _ (by omega) (by omega)]; exact w7
  · rw [ea _ (by omega) (by omega)]; exact w8
  · rw [ea _ (by omega) (by omega)]; exact w9
  · intro q hq
    rw [ea _ (by omega) (by omega)] at hq
    rw [ea _ (by omega) (by omega), ea _ (by omega) (by omega), ea 1 (by omega) (by omega), ea _ (by omega) (by omega), ea _ (by omega) (by omega)]
    exact WL q hq
  · intro q hq
    rw [ea _ (by omega) (by omega)] at hq
    rw [ea _ (by omega) (by omega)]
    refine ⟨(WB q hq).1, fun q2 h2 => ?_⟩
    rw [ea _ (by omega) (by omega)]
    exact (WB q hq).2 q2 h2
  · rw [eC _ (by omega) (by omega), ea _ (by omega) (by omega)]; exact L
  · intro hw
    rw [← hA, if_pos hw]
    exact Bk_book (B hw) ⟨h7, w7⟩ w10 hl hb hp
end CR5
