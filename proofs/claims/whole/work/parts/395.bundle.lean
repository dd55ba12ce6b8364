-- the bundles: prices
section BU
variable {x : Nat} {S : jSt} {C : Nat → Nat → Int} {a : Nat → Int}
def prv (a : Nat → Int) (s : Nat) (y : Int) : Nat → Int
  | 0 => 0
  | k + 1 => prv a s y k + (if s.testBit k = true ∧ ¬ a (153 + 3 * k) = y then a (155 + 3 * k) else 0)
theorem prv_b {s : Nat} {y : Int} : ∀ k : Nat, (∀ i, i < k → 0 ≤ a (155 + 3 * i) ∧ a (155 + 3 * i) ≤ 9999) → 0 ≤ prv a s y k ∧ prv a s y k ≤ 9999 * (k : Int)
  | 0, _ => by unfold prv; omega
  | k + 1, h => by
    have h1 := prv_b (s := s) (y := y) k (fun i hi => h i (by omega))
    have h2 := h k (by omega)
    unfold prv
    split <;> omega
theorem cr417_7' (I : CI x S C) {f : Int → Option (Int × jSt)} : fgetr (cS x S C) ((x + 417 : Nat) : Int) 0 7 f = f ((x + 1 : Nat) : Int) := c_r I (i := 417) (by decide) rfl rfl (by decide)
theorem c_prices (I : CI x S C) (X : TdX a C 1) (WX : WfX a) {M : Nat} (hM : a 5 = (M : Int)) {s : Nat} (hs : s < 2147483648) (y : Int) : f_X0_pricesOf ((x + 417 : Nat) : Int) (s : Int) y (cS x S C) = some (prv a s y M, cS x S C) := by
  obtain ⟨⟨u1, _⟩, u3, _⟩ := X
  obtain ⟨⟨v1, _⟩, v3, _⟩ := WX
  unfold f_X0_pricesOf f_X0_pricesOf_b5
  refine lp (fun (r : Int → Int → Int → Int → Int → fK) i => r ((x + 417 : Nat) : Int) (s : Int) y (prv a s y i) (i : Int) (cS x S C)) (N := M) ?_ ?_ jN 0 (by omega) (by unfold jN; omega)
  · intro r i hi hr
    show f_X0_pricesOf_b5B r _ _ _ _ _ _ = _
    unfold f_X0_pricesOf_b5B f_X0_pricesOf_b53
    obtain ⟨d1, d2, d3⟩ := u3 i (by omega)
    obtain ⟨_, _, e3⟩ := v3 i (by omega)
    have pb := prv_b (a := a) (s := s) (y := y) i (fun j hj => (v3 j (by omega)).2.2)
    have pe : prv a s y (i + 1) = prv a s y i + (if s.testBit i = true ∧ ¬ a (153 + 3 * i) = y then a (155 + 3 * i) else 0) := rfl
    rw [cr417_7' I, cg_1 I, u1, hM, if_neg (by omega), bit_n hs (by omega)]
    simp only [flet_eq]
    rw [w32_of (z := (i : Int) + 1) (by omega) (by omega), zs]
    rw [pe] at hr
    by_cases h : s.testBit i = true
    · rw [if_pos h, if_neg (by decide), cr417_7' I, cr1_8 I, al_5 I (by omega) (by omega), toNat_z, show C 5 i = a (153 + 3 * i) from d1]
      by_cases h2 : a (153 + 3 * i) = y
      · rw [if_pos h2]
        rw [if_neg (fun z => z.2 h2), Int.add_zero] at hr
        exact hr
      · rw [if_neg h2, cr417_7' I, cr1_10 I, al_7 I (by omega) (by omega), toNat_z, show C 7 i = a (155 + 3 * i) from d3, w32_of (by omega) (by omega)]
        rw [if_pos ⟨h, h2⟩] at hr
        exact hr
    · rw [if_neg h, if_pos rfl]
      rw [if_neg (fun z => h z.1), Int.add_zero] at hr
      exact hr
  · intro r
    show f_X0_pricesOf_b5B r _ _ _ _ _ _ = _
    unfold f_X0_pricesOf_b5B
    rw [cr417_7' I, cg_1 I, u1, hM, if_pos (by omega)]
end BU
