-- the bundles: the best set
section BS
variable {x : Nat} {a : Nat → Int}
def bsv (a : Nat → Int) (y : Int) (M : Nat) : Nat → Nat
  | 0 => 0
  | s + 1 => if (gts a s y M).isSome = true ∧ prv a (bsv a y M s) (-1) M < prv a s (-1) M then s else bsv a y M s
theorem gts_0 (y : Int) : ∀ k, gts a 0 y k = some (0, 0)
  | 0 => rfl
  | k + 1 => by
    show (gts a 0 y k).bind _ = _
    rw [gts_0 y k]
    show stp a 0 y k (0, 0) = _
    unfold stp
    rw [if_neg (by rw [Nat.zero_testBit]; decide)]
theorem bsv_b (y : Int) (M : Nat) : ∀ s, bsv a y M s ≤ s ∧ (gts a (bsv a y M s) y M).isSome = true
  | 0 => ⟨Nat.le_refl _, by show (gts a 0 y M).isSome = true; rw [gts_0]; rfl⟩
  | s + 1 => by
    have h := bsv_b y M s
    unfold bsv
    split
    · rename_i z
      exact ⟨by omega, z.1⟩
    · exact ⟨by omega, h.2⟩
theorem prv_y {s : Nat} {y : Int} : ∀ k : Nat, (∀ i, i < k → 0 ≤ a (153 + 3 * i)) → (gts a s y k).isSome = true → prv a s y k = prv a s (-1) k
  | 0, _, _ => rfl
  | k + 1, h, hg => by
    have hk : (gts a s y k).isSome = true := by
      cases e : gts a s y k with
      | none =>
        have := gts_none e 1
        rw [this] at hg
        exact hg
      | some c => rfl
    have ih := prv_y k (fun i hi => h i (by omega)) hk
    have h0 := h k (by omega)
    unfold prv
    rw [ih]
    by_cases t : s.testBit k = true
    · have ny : ¬ a (153 + 3 * k) = y := fun z => by
        have e : gts a s y (k + 1) = none := by
          show (gts a s y k).bind _ = none
          cases e2 : gts a s y k with
          | none => rfl
          | some c =>
            show stp a s y k c = none
            unfold stp
            rw [if_pos t, if_pos (Or.inl z)]
        rw [e] at hg
        exact Bool.noConfusion hg
      rw [if_pos ⟨t, ny⟩, if_pos ⟨t, by omega⟩]
    · rw [if_neg (fun z => t z.1), if_neg (fun z => t z.1)]
theorem c_best {S : jSt} {C : Nat → Nat → Int} (I : CI x S C) (X : TdX a C 1) (WX : WfX a) (w1 : a 1 ≤ 5) {M : Nat} (hM : a 5 = (M : Int)) (y : Int) : f_X0_bestBundles ((x + 417 : Nat) : Int) y (cS x S C) = some (((bsv a y M (2 ^ M) : Nat) : Int), cS x S C) := by
  have v1 := WX.1.1
  have M8 : 2 ^ M ≤ 256 := Nat.pow_le_pow_right (n := 2) (by decide) (show M ≤ 8 by omega)
  have M1 : 0 < 2 ^ M := Nat.pow_pos (by decide)
  have z0 : bsv a y M 1 = 0 := by
    show (if (gts a 0 y M).isSome = true ∧ prv a 0 (-1) M < prv a 0 (-1) M then 0 else 0) = 0
    split <;> rfl
  have p0 : prv a 0 (-1) M = 0 := by
    have : ∀ k, prv a 0 (-1) k = 0 := fun k => by
      induction k with
      | zero => rfl
      | succ k ih => unfold prv; rw [ih, if_neg (fun z => by rw [Nat.zero_testBit] at z; exact Bool.noConfusion z.1)]; rfl
    exact this M
  unfold f_X0_bestBundles f_X0_bestBundles_b7
  have key := lp (z := fun _ _ _ _ _ _ => none) (s := fun r => f_X0_bestBundles_b7B r) (fun (r : Int → Int → Int → Int → Int → fK) i => r ((x + 417 : Nat) : Int) y ((bsv a y M i : Nat) : Int) (prv a (bsv a y M i) (-1) M) (i : Int) (cS x S C)) (N := 2 ^ M) (res := some (((bsv a y M (2 ^ M) : Nat) : Int), cS x S C)) ?_ ?_ jN 1 (by omega) (by unfold jN; omega)
  · simp only [z0, p0] at key
    exact key
  · intro r i hi hr
    show f_X0_bestBundles_b7B r _ _ _ _ _ _ = _
    unfold f_X0_bestBundles_b7B f_X0_bestBundles_b52
    have be : bsv a y M (i + 1) = if (gts a i y M).isSome = true ∧ prv a (bsv a y M i) (-1) M < prv a i (-1) M then i else bsv a y M i := rfl
    rw [cr417_7 I, cg_1 I, X.1.1, hM, ishl_n (by omega), if_neg (by omega), c_v I (i := 417) (by decide) rfl, c_prices I X WX hM (by omega), fcall_some]
    simp only [flet_eq]
    rw [w32_of (z := (i : Int) + 1) (by omega) (by omega), zs]
    rw [be] at hr
    by_cases h1 : prv a i (-1) M ≤ prv a (bsv a y M i) (-1) M
    · rw [if_pos h1]
      rw [if_neg (fun z => by omega)] at hr
      exact hr
    · rw [if_neg h1, c_v I (i := 417) (by decide) rfl, c_together I X WX w1 hM (by omega), fcall_some, if_b01]
      by_cases h2 : (gts a i y M).isSome = true
      · rw [if_pos h2]
        rw [if_pos ⟨h2, by omega⟩] at hr
        exact hr
      · rw [if_neg h2]
        rw [if_neg (fun z => h2 z.1)] at hr
        exact hr
  · intro r
    show f_X0_bestBundles_b7B r _ _ _ _ _ _ = _
    unfold f_X0_bestBundles_b7B
    rw [cr417_7 I, cg_1 I, X.1.1, hM, ishl_n (by omega), if_pos (by omega)]
end BS
