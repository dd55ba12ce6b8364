-- bridges
section BR
variable {x : Nat}
theorem turnA_tt {a : Nat → Int} {f g : Nat} (hf : f < 6) (hg : g < 6) (hne : f ≠ g) (W : stOK a) : turnA (turnA a f g) f g = a := by
  have W2 := stOK_turn hf hg hne (stOK_turn hf hg hne W)
  funext k
  by_cases hk : 141 ≤ k ∧ k < 147
  · obtain ⟨h, rfl⟩ : ∃ h, k = 141 + h := ⟨k - 141, by omega⟩
    have h0 := (W h (by omega)).1
    have h1 := (W2 h (by omega)).1
    have e : (turnA (turnA a f g) f g (141 + h)).toNat = (a (141 + h)).toNat := Nat.eq_of_testBit_eq (fun i => by
      rw [turnA_t hne, turnA_t hne]
      cases (a (141 + h)).toNat.testBit i <;> cases decide ((h = f ∧ i = g) ∨ (h = g ∧ i = f)) <;> rfl)
    omega
  · rw [turnA_k _ (by omega) (by omega), turnA_k _ (by omega) (by omega)]
def brb (e : Nat → Nat) (f g : Nat) : Int := if (e f).testBit g = true ∧ mnc e f g 36 64 = 1 then 1 else 0
def brr (e : Nat → Nat) (f : Nat) : Nat → Int
  | 0 => 0
  | k + 1 => brr e f k + brb e f (f + 1 + k)
def brs (e : Nat → Nat) : Nat → Int
  | 0 => 0
  | k + 1 => brs e k + brr e k (5 - k)
theorem brb_b (e : Nat → Nat) (f g : Nat) : 0 ≤ brb e f g ∧ brb e f g ≤ 1 := by
  unfold brb
  split <;> omega
theorem brr_b (e : Nat → Nat) (f : Nat) : ∀ k, 0 ≤ brr e f k ∧ brr e f k ≤ (k : Int)
  | 0 => ⟨Int.le_refl _, Int.le_refl _⟩
  | k + 1 => by
    have := brr_b e f k
    have := brb_b e f (f + 1 + k)
    unfold brr
    omega
theorem brs_b (e : Nat → Nat) : ∀ k, 0 ≤ brs e k ∧ brs e k ≤ 6 * (k : Int)
  | 0 => ⟨Int.le_refl _, Int.le_refl _⟩
  | k + 1 => by
    have := brs_b e k
    have := brr_b e k (5 - k)
    unfold brs
    omega
theorem c_bridges {S : jSt} {C : Nat → Nat → Int} {a : Nat → Int} (I : CI x S C) (X : TdX a C 1) (W : stOK a) : f_X7_countBridges ((x + 10 : Nat) : Int) (cS x S C) = some (brs (bsd a) 6, cS x S C) := by
  unfold f_X7_countBridges f_X7_countBridges_b4
  refine lp (fun (r : Int → Int → Int → fK) i => r ((x + 10 : Nat) : Int) (brs (bsd a) i) (i : Int) (cS x S C)) (N := 6) ?_ ?_ jN 0 (by omega) (by unfold jN; omega)
  · intro r i hi hr
    show f_X7_countBridges_b4B r _ _ _ _ = _
    unfold f_X7_countBridges_b4B
    have b1 := brs_b (bsd a) i
    rw [if_neg (by omega), flet_eq, w32_of (by omega) (by omega), zs]
    unfold f_X7_countBridges_b14
    have key := lp (z := fun _ _ _ _ _ => none) (s := fun q => f_X7_countBridges_b14B r q) (fun (q : Int → Int → Int → Int → fK) j => q ((x + 10 : Nat) : Int) (brs (bsd a) i + brr (bsd a) i j) (i : Int) ((i + 1 + j : Nat) : Int) (cS x S C)) (N := 5 - i) (res := some (brs (bsd a) 6, cS x S C)) ?_ ?_ jN 0 (by omega) (by unfold jN; omega)
    · simp only [show brr (bsd a) i 0 = 0 from rfl, Int.add_zero, Nat.add_zero] at key
      exact key
    · intro q j hj hq
      show f_X7_countBridges_b14B r q _ _ _ _ _ = _
      have b2 := brr_b (bsd a) i j
      have be : brr (bsd a) i (j + 1) = brr (bsd a) i j + brb (bsd a) i (i + 1 + j) := rfl
      unfold f_X7_countBridges_b14B f_X7_countBridges_b42
      rw [be] at hq
      unfold brb at hq
      rw [if_neg (by omega), c_v I (i := 10) (by decide) rfl, c_joins I X W (by omega) (by omega), fcall_some, if_b01]
      simp only [flet_eq]
      rw [w32_of (z := ((i + 1 + j : Nat) : Int) + 1) (by omega) (by omega), w32_of (z := brs (bsd a) i + brr (bsd a) i j + 1) (by omega) (by omega), show ((i + 1 + j : Nat) : Int) + 1 = ((i + 1 + (j + 1) : Nat) : Int) by omega]
      by_cases h1 : (a (141 + i)).toNat.testBit (i + 1 + j) = true
      · rw [if_pos h1, c_v I (i := 10) (by decide) rfl, c_least I X W (by omega) (by omega), fcall_some]
        by_cases h2 : mnc (bsd a) i (i + 1 + j) 36 64 = 1
        · rw [if_pos h2]
          rw [if_pos ⟨h1, h2⟩, ← Int.add_assoc] at hq
          exact hq
        · rw [if_neg h2]
          rw [if_neg (fun z => h2 z.2), Int.add_zero] at hq
          exact hq
      · rw [if_neg h1]
        rw [if_neg (fun z => h1 z.1), Int.add_zero] at hq
        exact hq
    · intro q
      show f_X7_countBridges_b14B r q _ _ _ _ _ = _
      unfold f_X7_countBridges_b14B
      rw [if_pos (by omega), flet_eq, w32_of (by omega) (by omega), zs]
      exact hr
  · intro r
    show f_X7_countBridges_b4B r _ _ _ _ = _
    unfold f_X7_countBridges_b4B
    rw [if_pos (by omega)]
theorem brb_e {a : Nat → Int} (W : stOK a) {f g : Nat} (hf : f < 6) (hg : g < 6) (hne : f ≠ g) : brb (bsd a) f g = if (a (141 + f)).toNat.testBit g = true ∧ ¬ (pts (bsd (turnA a f g)) 6).2 ≤ (pts (bsd a) 6).2 then 1 else 0 := by
  have W2 := stOK_turn hf hg hne W
  unfold brb
  by_cases h : (a (141 + f)).toNat.testBit g = true
  · have hc : ∀ i j, i < 6 → ((bsd (turnA a f g) i).testBit j = true ↔ ((bsd a i).testBit j = true ∧ ¬ ((i = f ∧ j = g) ∨ (i = g ∧ j = f)))) := fun i j hi => by
      unfold bsd
      rw [turnA_t hne]
      by_cases c : (i = f ∧ j = g) ∨ (i = g ∧ j = f)
      · have : (a (141 + i)).toNat.testBit j = true := by
          rcases c with c | c
          · rw [c.1, c.2]; exact h
          · rw [c.1, c.2, (W g hg).2.2 f hf]; exact h
        rw [this, decide_eq_true c]
        constructor
        · intro z; exact Bool.noConfusion z
        · intro z; exact absurd c z.2
      · rw [decide_eq_false c, Bool.xor_false]
        exact ⟨fun z => ⟨z, c⟩, fun z => z.1⟩
    have he : ∀ i, i < 6 → bsd a i < 64 := fun i hi => (bsd_b W hi).1
    have he' : ∀ i, i < 6 → bsd (turnA a f g) i < 64 := fun i hi => (bsd_b W2 hi).1
    have m1 := mnc_1 he he' hf hg hne h hc
    have p1 := pts_1 he he' (fun i j hi hj => (W i hi).2.2 j hj) (fun i j hi hj => (W2 i hi).2.2 j hj) hf hg h hc
    have e1 : ((bsd a f).testBit g = true ∧ mnc (bsd a) f g 36 64 = 1) ↔ ((a (141 + f)).toNat.testBit g = true ∧ ¬ (pts (bsd (turnA a f g)) 6).2 ≤ (pts (bsd a) 6).2) := by
      rw [m1, p1]
      exact Iff.rfl
    by_cases c : (bsd a f).testBit g = true ∧ mnc (bsd a) f g 36 64 = 1
    · rw [if_pos c, if_pos (e1.mp c)]
    · rw [if_neg c, if_neg (fun z => c (e1.mpr z))]
  · rw [if_neg (fun z => h z.1), if_neg (fun z => h z.1)]
theorem s_bridges {m : Nat} {S : jSt} {F : Nat → Nat → Int} (R : RI m S F) (W : stOK (F 1)) : f_X12_bridges (m : Int) (rS m S F) = some (brs (bsd (F 1)) 6, rS m S F) := by
  have he : ∀ i, i < 6 → bsd (F 1) i < 64 := fun i hi => (bsd_b W hi).1
  obtain ⟨_, pb1, pb2⟩ := pts_b he 6 (by omega)
  unfold f_X12_bridges
  rw [r_cv R, s_parts R W, fcall_some]
  unfold f_X12_bridges_b9
  refine lp (fun (r : Int → Int → Int → Int → fK) i => r (m : Int) (pts (bsd (F 1)) 6).2 (brs (bsd (F 1)) i) (i : Int) (rS m S F)) (N := 6) ?_ ?_ jN 0 (by omega) (by unfold jN; omega)
  · intro r i hi hr
    show f_X12_bridges_b9B r _ _ _ _ _ = _
    unfold f_X12_bridges_b9B
    have b1 := brs_b (bsd (F 1)) i
    rw [if_neg (by omega), flet_eq, w32_of (by omega) (by omega), zs]
    unfold f_X12_bridges_b19
    have key := lp (z := fun _ _ _ _ _ _ => none) (s := fun q => f_X12_bridges_b19B r q) (fun (q : Int → Int → Int → Int → Int → fK) j => q (m : Int) (pts (bsd (F 1)) 6).2 (brs (bsd (F 1)) i + brr (bsd (F 1)) i j) (i : Int) ((i + 1 + j : Nat) : Int) (rS m S F)) (N := 5 - i) (res := some (brs (bsd (F 1)) 6, rS m S F)) ?_ ?_ jN 0 (by omega) (by unfold jN; omega)
    · simp only [show brr (bsd (F 1)) i 0 = 0 from rfl, Int.add_zero, Nat.add_zero] at key
      exact key
    · intro q j hj hq
      show f_X12_bridges_b19B r q _ _ _ _ _ _ = _
      have b2 := brr_b (bsd (F 1)) i j
      have be : brr (bsd (F 1)) i (j + 1) = brr (bsd (F 1)) i j + brb (bsd (F 1)) i (i + 1 + j) := rfl
      obtain ⟨c1, c2⟩ := bsd_b W hi
      have W2 := stOK_turn (f := i) (g := i + 1 + j) (by omega) (by omega) (by omega) W
      have R1 : RI m S (va_up F 1 (turnA (F 1) i (i + 1 + j))) := rU R _
      have e1 : va_up F 1 (turnA (F 1) i (i + 1 + j)) 1 = turnA (F 1) i (i + 1 + j) := va_up_self _ _ _
      have W3 : stOK (va_up F 1 (turnA (F 1) i (i + 1 + j)) 1) := by rw [e1]; exact W2
      have e2 : va_up (va_up F 1 (turnA (F 1) i (i + 1 + j))) 1 (turnA (va_up F 1 (turnA (F 1) i (i + 1 + j)) 1) i (i + 1 + j)) = F := by
        rw [e1, turnA_tt (by omega) (by omega) (by omega) W, va_uu]
        funext k
        by_cases hk : k = 1
        · subst hk; rw [va_up_self]
        · rw [va_up_ne _ _ hk]
      unfold f_X12_bridges_b19B f_X12_bridges_b67 f_X12_bridges_b76
      rw [be, brb_e W (by omega) (by omega) (by omega)] at hq
      rw [if_neg (by omega), r_a R, w32_of (z := 141 + (i : Int)) (by omega) (by omega), r_al R (by omega) (by omega), show (141 + (i : Int)).toNat = 141 + i by omega, c2, s_hasN c1 (by omega), fcall_some, if_b01]
      simp only [flet_eq]
      rw [w32_of (z := ((i + 1 + j : Nat) : Int) + 1) (by omega) (by omega), w32_of (z := brs (bsd (F 1)) i + brr (bsd (F 1)) i j + 1) (by omega) (by omega), w32_of (z := brs (bsd (F 1)) i + brr (bsd (F 1)) i j + 0) (by omega) (by omega), show ((i + 1 + j : Nat) : Int) + 1 = ((i + 1 + (j + 1) : Nat) : Int) by omega]
      by_cases h1 : (F 1 (141 + i)).toNat.testBit (i + 1 + j) = true
      · rw [if_pos (show (bsd (F 1) i).testBit (i + 1 + j) = true from h1), r_cv R, s_turn R W (by omega) (by omega) (by omega), fcall_some, r_cv R1, s_parts R1 W3, fcall_some, e1]
        by_cases h2 : (pts (bsd (turnA (F 1) i (i + 1 + j))) 6).2 ≤ (pts (bsd (F 1)) 6).2
        · rw [if_pos h2, r_cv R1, s_turn R1 W3 (by omega) (by omega) (by omega), fcall_some, e2, Int.add_zero]
          rw [if_neg (fun z => z.2 h2), Int.add_zero] at hq
          exact hq
        · rw [if_neg h2, r_cv R1, s_turn R1 W3 (by omega) (by omega) (by omega), fcall_some, e2]
          rw [if_pos ⟨h1, h2⟩, ← Int.add_assoc] at hq
          exact hq
      · rw [if_neg (show ¬ (bsd (F 1) i).testBit (i + 1 + j) = true from h1)]
        rw [if_neg (fun z => h1 z.1), Int.add_zero] at hq
        exact hq
    · intro q
      show f_X12_bridges_b19B r q _ _ _ _ _ _ = _
      unfold f_X12_bridges_b19B
      rw [if_pos (by omega), flet_eq, w32_of (by omega) (by omega), zs]
      exact hr
  · intro r
    show f_X12_bridges_b9B r _ _ _ _ _ = _
    unfold f_X12_bridges_b9B
    rw [if_pos (by omega)]
theorem g_bridges : Good x (f_X11_bridges (x : Int)) (f_X12_bridges ((x + 426 : Nat) : Int)) := Good_q (fun Z C F V h H => by
  have I := H.1
  have X := h.2.1.2.1
  have st := h.2.1.2.2.1.2.2.2.1
  refine ⟨brs (bsd (F 1)) 6, ?_, fun S2 hS R2 => s_bridges R2.1 st⟩
  unfold f_X11_bridges
  rw [cr0_0 I, cr1_14 I, c_v I (i := 10) (by decide) rfl, c_bridges I X st, fcall_some])
end BR
