-- what the numbers of the reference's array keep to
def WfL (a : Nat → Int) : Prop := ∀ l : Nat, (l : Int) < a 0 → (0 ≤ a (11 + 5 * l) ∧ a (11 + 5 * l) ≤ 5) ∧ (0 ≤ a (12 + 5 * l) ∧ a (12 + 5 * l) < 3 + a 1) ∧ (0 ≤ a (13 + 5 * l) ∧ a (13 + 5 * l) ≤ 99) ∧ (1 ≤ a (14 + 5 * l) ∧ a (14 + 5 * l) ≤ 9)
def WfB (a : Nat → Int) : Prop := ∀ b : Nat, (b : Int) < a 1 → (0 ≤ a (71 + 14 * b) ∧ a (71 + 14 * b) ≤ 9999) ∧ ∀ l : Nat, l < 12 → 0 ≤ a (72 + 14 * b + l) ∧ a (72 + 14 * b + l) ≤ 99
def WfN (a : Nat → Int) : Prop := (0 ≤ a 0 ∧ a 0 ≤ 12) ∧ (0 ≤ a 1 ∧ a 1 ≤ 5) ∧ (0 ≤ a 2 ∧ a 2 ≤ 4) ∧ (-1 ≤ a 3 ∧ a 3 < a 2) ∧ (0 ≤ a 4 ∧ a 4 ≤ 30) ∧ (0 ≤ a 7 ∧ a 7 ≤ 9999) ∧ (0 ≤ a 8 ∧ a 8 ≤ 99999) ∧ (0 ≤ a 9 ∧ a 9 ≤ 30592) ∧ (0 ≤ a 10 ∧ a 10 ≤ 30)
def Wf (a : Nat → Int) : Prop := WfN a ∧ WfL a ∧ WfB a
-- what is told, and a house, agree with the array
def Td (a : Nat → Int) (C : Nat → Nat → Int) (t : Nat) : Prop := C t 0 = a 0 ∧ C t 1 = a 1 ∧ C t 4 = a 2 ∧ C t 6 = a 3 ∧ ∀ l : Nat, (l : Int) < a 0 → C (t + 1) l = a (13 + 5 * l) ∧ C (t + 2) l = a (14 + 5 * l)
def HsL (a : Nat → Int) (C : Nat → Nat → Int) (o : Nat) : Prop := ∀ l : Nat, (l : Int) < a 0 → C (o + 1) l = a (12 + 5 * l) ∧ C (o + 2) l = a (11 + 5 * l)
def HsB (a : Nat → Int) (C : Nat → Nat → Int) (o : Nat) : Prop := ∀ b : Nat, (b : Int) < a 1 → C (o + 3) b = a (71 + 14 * b) ∧ ∀ l : Nat, l < 12 → C (o + 4) (12 * b + l) = a (72 + 14 * b + l)
def HsZ (a : Nat → Int) (C : Nat → Nat → Int) (o : Nat) : Prop := (∀ l : Nat, l < 12 → a 0 ≤ (l : Int) → C (o + 1) l = 0) ∧ (∀ b l : Nat, b < 5 → l < 12 → a 1 ≤ (b : Int) → C (o + 4) (12 * b + l) = 0) ∧ ∀ b l : Nat, (b : Int) < a 1 → l < 12 → a 0 ≤ (l : Int) → a (72 + 14 * b + l) = 0
def Hs (a : Nat → Int) (C : Nat → Nat → Int) (o : Nat) : Prop := (C o 7 = a 7 ∧ C o 6 = a 8 ∧ C o 8 = a 9 ∧ 0 ≤ C o 5 ∧ C o 5 ≤ 30) ∧ HsL a C o ∧ HsB a C o ∧ HsZ a C o
def Bk (a : Nat → Int) (C : Nat → Nat → Int) (o : Nat) : Prop := C o 5 = a 10 ∧ ∀ i : Nat, (i : Int) < a 10 → (0 ≤ C (o + 5) (4 * i) ∧ C (o + 5) (4 * i) ≤ 9999) ∧ (0 ≤ C (o + 5) (4 * i + 1) ∧ C (o + 5) (4 * i + 1) < 12) ∧ (0 ≤ C (o + 5) (4 * i + 2) ∧ C (o + 5) (4 * i + 2) < 5) ∧ (0 ≤ C (o + 5) (4 * i + 3) ∧ C (o + 5) (4 * i + 3) ≤ 9999) ∧ a (4843 + 2 * i) = (C (o + 5) (4 * i) * 16 + C (o + 5) (4 * i + 1)) * 8 + C (o + 5) (4 * i + 2) ∧ a (4844 + 2 * i) = C (o + 5) (4 * i + 3)
-- small ones of the class
theorem nlt {l : Int} {z : Int} (h0 : 0 ≤ l) (h : l < z) : ((l.toNat : Nat) : Int) < z := by omega
section CR1
variable {x : Nat} {S : jSt} {C : Nat → Nat → Int} {a : Nat → Int} {o : Nat}
theorem c_hasLot (I : CI x S C) (T : Td a C 1) (W : WfN a) (l : Int) : f_X10_hasLot ((x + 1 : Nat) : Int) l (cS x S C) = some (b01 (0 ≤ l ∧ l < a 0), cS x S C) := by
  unfold f_X10_hasLot
  obtain ⟨hL, _⟩ := W
  rw [cg_1 I, T.1, s_within, fcall_some, w32_of (by omega) (by omega)]
  unfold b01
  congr 2
  by_cases h : 0 ≤ l ∧ l < a 0
  · rw [if_pos h, if_pos (by omega)]
  · rw [if_neg h, if_neg (by omega)]
theorem c_hasBidder (I : CI x S C) (T : Td a C 1) (W : WfN a) (l : Int) : f_X10_hasBidder ((x + 1 : Nat) : Int) l (cS x S C) = some (b01 (0 ≤ l ∧ l < a 1), cS x S C) := by
  unfold f_X10_hasBidder
  obtain ⟨_, hL, _⟩ := W
  rw [cg_1 I, T.2.1, s_within, fcall_some, w32_of (by omega) (by omega)]
  unfold b01
  congr 2
  by_cases h : 0 ≤ l ∧ l < a 1
  · rw [if_pos h, if_pos (by omega)]
  · rw [if_neg h, if_neg (by omega)]
theorem c_hasText (I : CI x S C) (T : Td a C 1) (W : WfN a) (l : Int) : f_X10_hasText ((x + 1 : Nat) : Int) l (cS x S C) = some (b01 (0 ≤ l ∧ l < a 2), cS x S C) := by
  unfold f_X10_hasText
  obtain ⟨_, _, hL, _⟩ := W
  rw [cg_1 I, T.2.2.1, s_within, fcall_some, w32_of (by omega) (by omega)]
  unfold b01
  congr 2
  by_cases h : 0 ≤ l ∧ l < a 2
  · rw [if_pos h, if_pos (by omega)]
  · rw [if_neg h, if_neg (by omega)]
theorem c_scriptOf (I : CI x S C) (T : Td a C 1) (W : WfN a) (t : Int) : f_X10_scriptOf ((x + 1 : Nat) : Int) t (cS x S C) = some (if 0 ≤ t ∧ t < a 2 then C 4 t.toNat else -1, cS x S C) := by
  unfold f_X10_scriptOf f_X10_scriptOf_b21 f_X10_scriptOf_b22
  obtain ⟨_, _, hL, _⟩ := W
  by_cases h : t < 0
  · rw [if_pos h, if_neg (by omega)]
  · rw [if_neg h, cg_1 I, T.2.2.1]
    by_cases h2 : a 2 ≤ t
    · rw [if_pos h2, if_neg (by omega)]
    · rw [if_neg h2, cr1_5 I, c_al I (i := 4) (kd := 5) (n := 4) (by decide) rfl (by omega) (by omega), if_pos (by omega)]
theorem c_saleFloor (I : CI x S C) (ho : isH o) (H : Hs a C o) : f_X1_saleFloor ((x + o : Nat) : Int) (cS x S C) = some (sfl a, cS x S C) := by
  unfold f_X1_saleFloor sfl imin
  rw [cg_h I ho, H.1.1]
  congr 2
  by_cases h : 5 ≤ a 7
  · rw [if_pos h]
    by_cases h2 : 5 < a 7
    · rw [if_pos h2]
    · rw [if_neg h2]; omega
  · rw [if_neg h, if_neg (by omega)]
theorem c_keepsAt (I : CI x S C) (ho : isH o) (H : Hs a C o) (W : WfN a) {l f : Int} (h0 : 0 ≤ l) (h1 : l < a 0) : f_X1_keepsAt ((x + o : Nat) : Int) l f (cS x S C) = some (b01 (a (12 + 5 * l.toNat) = 0 ∧ a (11 + 5 * l.toNat) = f), cS x S C) := by
  unfold f_X1_keepsAt f_X1_keepsAt_b23 f_X1_keepsAt_b24
  have hW := W.1
  obtain ⟨e1, e2⟩ := H.2.1 l.toNat (nlt h0 h1)
  rw [crh_0 I ho, alh_1 I ho h0 (by omega), e1]
  by_cases h : a (12 + 5 * l.toNat) = 0
  · rw [if_pos h, crh_1 I ho, alh_2 I ho h0 (by omega), e2]
    by_cases h2 : a (11 + 5 * l.toNat) = f
    · rw [if_pos h2]; unfold b01; rw [if_pos ⟨h, h2⟩]
    · rw [if_neg h2]; unfold b01; rw [if_neg (fun q => h2 q.2)]
  · rw [if_neg h]; unfold b01; rw [if_neg (fun q => h q.1)]
theorem c_lotsAt (I : CI x S C) (ho : isH o) (H : Hs a C o) (W : WfN a) (f : Int) : f_X1_lotsAt ((x + o : Nat) : Int) f (a 0) (cS x S C) = some (((lotsF a f : Nat) : Int), cS x S C) := by
  have hW := W.1
  unfold f_X1_lotsAt
  refine lp (fun (r : Int → Int → Int → Int → Int → fK) i => r ((x + o : Nat) : Int) f (a 0) ((mk (fun l => decide (a (12 + 5 * l) = 0 ∧ a (11 + 5 * l) = f)) i : Nat) : Int) (i : Int) (cS x S C)) (N := (a 0).toNat) ?_ ?_ jN 0 (by omega) (by unfold jN; omega)
  · intro r i hi ih
    show f_X1_lotsAt_b5B r _ _ _ _ _ _ = _
    unfold f_X1_lotsAt_b5B f_X1_lotsAt_b28
    rw [if_neg (by omega), cv_h I ho, c_keepsAt I ho H W (by omega) (by omega), fcall_some, if_b01, toNat_z]
    simp only [flet_eq]
    rw [w32_of (by omega) (by omega), zs]
    by_cases h : a (12 + 5 * i) = 0 ∧ a (11 + 5 * i) = f
    · rw [if_pos h, ishl_n (by omega), mk_step (fun l => decide (a (12 + 5 * l) = 0 ∧ a (11 + 5 * l) = f)) (by omega) _ (by rw [if_pos (decide_eq_true h)])]
      exact ih
    · rw [if_neg h]
      have e : mk (fun l => decide (a (12 + 5 * l) = 0 ∧ a (11 + 5 * l) = f)) (i + 1) = mk (fun l => decide (a (12 + 5 * l) = 0 ∧ a (11 + 5 * l) = f)) i := by
        rw [mk, if_neg (by simp only [decide_eq_true_eq]; exact h), Nat.or_zero]
      rw [e] at ih
      exact ih
  · intro r
    show f_X1_lotsAt_b5B r _ _ _ _ _ _ = _
    unfold f_X1_lotsAt_b5B
    rw [if_pos (by omega)]
    rfl
end CR1
