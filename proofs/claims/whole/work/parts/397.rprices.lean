-- the bundles: the reference's prices
section RP
variable {m : Nat} {S : jSt} {F : Nat → Nat → Int}
theorem s_prices (R : RI m S F) (WX : WfX (F 1)) (w1 : F 1 1 ≤ 5) {M : Nat} (hM : F 1 5 = (M : Int)) {s : Nat} (hs : s < 2147483648) (y : Int) : f_X12_pricesOf (m : Int) (s : Int) y (rS m S F) = some (if (gts (F 1) s y M).isSome = true then prv (F 1) s y M else -1, rS m S F) := by
  obtain ⟨⟨v1, _⟩, v3, _⟩ := WX
  unfold f_X12_pricesOf f_X12_pricesOf_b11
  refine lpe (fun (r : Int → Int → Int → Int → Int → Int → Int → fK) i (c : Nat × Nat) => r (m : Int) (s : Int) y (c.1 : Int) (c.2 : Int) (prv (F 1) s y i) (i : Int) (rS m S F)) (fun i c => gts (F 1) s y i = some c ∧ c.1 < 4096 ∧ c.2 < 32) (fun r => r = some (if (gts (F 1) s y M).isSome = true then prv (F 1) s y M else -1, rS m S F)) (N := M) ?_ ?_ jN 0 (0, 0) (by omega) (by unfold jN; omega) ⟨rfl, by decide, by decide⟩
  · intro r i c hi hinv ih
    obtain ⟨h1, h2, h3⟩ := hinv
    show f_X12_pricesOf_b11B r _ _ _ _ _ _ _ _ = _
    unfold f_X12_pricesOf_b11B f_X12_pricesOf_b126 f_X12_pricesOf_b84
    obtain ⟨e1, e2, e3⟩ := v3 i (by omega)
    obtain ⟨b, hb⟩ : ∃ b : Nat, F 1 (153 + 3 * i) = (b : Int) := ⟨(F 1 (153 + 3 * i)).toNat, by omega⟩
    obtain ⟨L, hL⟩ : ∃ L : Nat, F 1 (154 + 3 * i) = (L : Int) := ⟨(F 1 (154 + 3 * i)).toNat, by omega⟩
    have p5 : 2 ^ b < 32 := Nat.pow_lt_pow_right (n := 5) (by decide) (by omega)
    have pb := prv_b (a := F 1) (s := s) (y := y) i (fun j hj => (v3 j (by omega)).2.2)
    have pe : prv (F 1) s y (i + 1) = prv (F 1) s y i + (if s.testBit i = true ∧ ¬ F 1 (153 + 3 * i) = y then F 1 (155 + 3 * i) else 0) := rfl
    have ge : gts (F 1) s y (i + 1) = stp (F 1) s y i c := by
      show (gts (F 1) s y i).bind _ = _
      rw [h1]
      rfl
    have no : gts (F 1) s y (i + 1) = none → some (-1, rS m S F) = some (if (gts (F 1) s y M).isSome = true then prv (F 1) s y M else -1, rS m S F) := fun hz => by
      have := gts_none hz (M - (i + 1))
      rw [show i + 1 + (M - (i + 1)) = M by omega] at this
      rw [this]
      rfl
    have go : ∀ q, stp (F 1) s y i c = some q → r (m : Int) (s : Int) y (q.1 : Int) (q.2 : Int) (prv (F 1) s y (i + 1)) ((i + 1 : Nat) : Int) (rS m S F) = some (if (gts (F 1) s y M).isSome = true then prv (F 1) s y M else -1, rS m S F) := fun q hq => ih q ⟨ge.trans hq, stp_b ⟨⟨e1.1, by omega⟩, e2⟩ ⟨h2, h3⟩ hq⟩
    have r0 : ∀ g, fald (rS m S F) ((m + 1 : Nat) : Int) (153 + 3 * (i : Int)) 1 g = g (b : Int) := fun g => by
      rw [r_al R (by omega) (by omega), show (153 + 3 * (i : Int)).toNat = 153 + 3 * i by omega, hb]
    have r1 : ∀ g, fald (rS m S F) ((m + 1 : Nat) : Int) (153 + 3 * (i : Int) + 1) 1 g = g (L : Int) := fun g => by
      rw [r_al R (by omega) (by omega), show (153 + 3 * (i : Int) + 1).toNat = 154 + 3 * i by omega, hL]
    have r2 : ∀ g, fald (rS m S F) ((m + 1 : Nat) : Int) (153 + 3 * (i : Int) + 2) 1 g = g (F 1 (155 + 3 * i)) := fun g => by
      rw [r_al R (by omega) (by omega), show (153 + 3 * (i : Int) + 2).toNat = 155 + 3 * i by omega]
    rw [r_a R, r_al R (by omega) (by omega), show (5 : Int).toNat = 5 from rfl, hM, if_neg (by omega), s_has hs (by omega), fcall_some, if_b01]
    simp only [flet_eq]
    rw [w32_of (z := (i : Int) + 1) (by omega) (by omega), zs, w32_of (z := 3 * (i : Int)) (by omega) (by omega), w32_of (z := 153 + 3 * (i : Int)) (by omega) (by omega), w32_of (z := 153 + 3 * (i : Int) + 1) (by omega) (by omega), w32_of (z := 153 + 3 * (i : Int) + 2) (by omega) (by omega)]
    by_cases h : s.testBit i = true
    · rw [if_pos h, r_a R, r0]
      by_cases k1 : (b : Int) = y
      · rw [if_pos k1]
        refine no (ge.trans ?_)
        unfold stp
        rw [if_pos h, if_pos (Or.inl (by rw [hb]; exact k1))]
      rw [if_neg k1, r_a R, r0, s_has (by omega) (by omega), fcall_some, if_b01]
      by_cases k3 : c.2.testBit b = true
      · rw [if_pos k3]
        refine no (ge.trans ?_)
        unfold stp
        rw [if_pos h, hb, hL, toNat_z, toNat_z, if_pos (Or.inr (Or.inr k3))]
      · rw [if_neg k3, r_a R, r1, iand_n (by omega)]
        by_cases k2 : c.1 &&& L = 0
        · rw [if_pos (by omega), r_a R, r0, r_a R, r1, r_a R, r2, ishl_n (by omega), ior_n (by omega) (by omega), ior_n (by omega) (by omega), w32_of (by omega) (by omega)]
          rw [if_pos ⟨h, by rw [hb]; exact k1⟩] at pe
          rw [← pe]
          refine go (c.1 ||| L, c.2 ||| 2 ^ b) ?_
          unfold stp
          rw [if_pos h, hb, hL, toNat_z, toNat_z, if_neg (fun z => by rcases z with z | z | z; exact k1 z; exact z k2; exact k3 z)]
        · rw [if_neg (by omega)]
          refine no (ge.trans ?_)
          unfold stp
          rw [if_pos h, hb, hL, toNat_z, toNat_z, if_pos (Or.inr (Or.inl k2))]
    · rw [if_neg h]
      rw [if_neg (fun z => h z.1), Int.add_zero] at pe
      rw [← pe]
      refine go c ?_
      unfold stp
      rw [if_neg h]
  · intro r c hinv
    obtain ⟨h1, h2, h3⟩ := hinv
    show f_X12_pricesOf_b11B r _ _ _ _ _ _ _ _ = _
    unfold f_X12_pricesOf_b11B
    rw [r_a R, r_al R (by omega) (by omega), show (5 : Int).toNat = 5 from rfl, hM, if_pos (by omega), h1]
    rfl
end RP
