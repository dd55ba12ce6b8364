-- the bundles: those that go together
section TG
variable {x : Nat} {S : jSt} {C : Nat → Nat → Int} {a : Nat → Int}
def stp (a : Nat → Int) (s : Nat) (y : Int) (k : Nat) (p : Nat × Nat) : Option (Nat × Nat) := if s.testBit k = true then (if a (153 + 3 * k) = y ∨ ¬ p.1 &&& (a (154 + 3 * k)).toNat = 0 ∨ p.2.testBit (a (153 + 3 * k)).toNat = true then none else some (p.1 ||| (a (154 + 3 * k)).toNat, p.2 ||| 2 ^ (a (153 + 3 * k)).toNat)) else some p
def gts (a : Nat → Int) (s : Nat) (y : Int) : Nat → Option (Nat × Nat)
  | 0 => some (0, 0)
  | k + 1 => (gts a s y k).bind (stp a s y k)
theorem gts_none {s : Nat} {y : Int} {i : Nat} (h : gts a s y i = none) : ∀ k, gts a s y (i + k) = none
  | 0 => h
  | k + 1 => by
    show (gts a s y (i + k)).bind _ = none
    rw [gts_none h k]
    rfl
theorem stp_b {s : Nat} {y : Int} {k : Nat} {p q : Nat × Nat} (hb : (0 ≤ a (153 + 3 * k) ∧ a (153 + 3 * k) < 5) ∧ 1 ≤ a (154 + 3 * k) ∧ a (154 + 3 * k) < 4096) (hp : p.1 < 4096 ∧ p.2 < 32) (h : stp a s y k p = some q) : q.1 < 4096 ∧ q.2 < 32 := by
  unfold stp at h
  split at h
  · split at h
    · cases h
    · injection h with h
      subst h
      exact ⟨Nat.or_lt_two_pow (n := 12) hp.1 (by omega), Nat.or_lt_two_pow (n := 5) hp.2 (Nat.pow_lt_pow_right (by decide) (by omega))⟩
  · injection h with h
    subst h
    exact hp
theorem and_pw {B b : Nat} : (B &&& 2 ^ b = 0) ↔ ¬ B.testBit b = true := by
  constructor
  · intro h z
    have h1 : (B &&& 2 ^ b).testBit b = true := by rw [Nat.testBit_and, Nat.testBit_two_pow, z, decide_eq_true rfl]; rfl
    rw [h, Nat.zero_testBit] at h1
    exact Bool.noConfusion h1
  · intro h
    refine Nat.eq_of_testBit_eq (fun i => ?_)
    rw [Nat.testBit_and, Nat.testBit_two_pow, Nat.zero_testBit]
    by_cases e : b = i
    · subst e
      rw [Bool.eq_false_iff.mpr h]
      rfl
    · rw [decide_eq_false e, Bool.and_false]
theorem c_together (I : CI x S C) (X : TdX a C 1) (WX : WfX a) (w1 : a 1 ≤ 5) {M : Nat} (hM : a 5 = (M : Int)) {s : Nat} (hs : s < 2147483648) (y : Int) : f_X0_goTogether ((x + 417 : Nat) : Int) (s : Int) y (cS x S C) = some (b01 ((gts a s y M).isSome = true), cS x S C) := by
  obtain ⟨⟨u1, _⟩, u3, _⟩ := X
  obtain ⟨⟨v1, _⟩, v3, _⟩ := WX
  unfold f_X0_goTogether f_X0_goTogether_b8
  refine lpe (fun (r : Int → Int → Int → Int → Int → Int → fK) i (c : Nat × Nat) => r ((x + 417 : Nat) : Int) (s : Int) y (c.1 : Int) (c.2 : Int) (i : Int) (cS x S C)) (fun i c => gts a s y i = some c ∧ c.1 < 4096 ∧ c.2 < 32) (fun r => r = some (b01 ((gts a s y M).isSome = true), cS x S C)) (N := M) ?_ ?_ jN 0 (0, 0) (by omega) (by unfold jN; omega) ⟨rfl, by decide, by decide⟩
  · intro r i c hi hinv ih
    obtain ⟨h1, h2, h3⟩ := hinv
    show f_X0_goTogether_b8B r _ _ _ _ _ _ _ = _
    unfold f_X0_goTogether_b8B f_X0_goTogether_b105 f_X0_goTogether_b83
    obtain ⟨d1, d2, d3⟩ := u3 i (by omega)
    obtain ⟨e1, e2, e3⟩ := v3 i (by omega)
    obtain ⟨b, hb⟩ : ∃ b : Nat, a (153 + 3 * i) = (b : Int) := ⟨(a (153 + 3 * i)).toNat, by omega⟩
    obtain ⟨L, hL⟩ : ∃ L : Nat, a (154 + 3 * i) = (L : Int) := ⟨(a (154 + 3 * i)).toNat, by omega⟩
    have p5 : 2 ^ b < 32 := Nat.pow_lt_pow_right (n := 5) (by decide) (by omega)
    have ge : gts a s y (i + 1) = stp a s y i c := by
      show (gts a s y i).bind _ = _
      rw [h1]
      rfl
    have no : gts a s y (i + 1) = none → some (0, cS x S C) = some (b01 ((gts a s y M).isSome = true), cS x S C) := fun hz => by
      have := gts_none hz (M - (i + 1))
      rw [show i + 1 + (M - (i + 1)) = M by omega] at this
      rw [this]
      rfl
    have go : ∀ q, stp a s y i c = some q → r ((x + 417 : Nat) : Int) (s : Int) y (q.1 : Int) (q.2 : Int) ((i + 1 : Nat) : Int) (cS x S C) = some (b01 ((gts a s y M).isSome = true), cS x S C) := fun q hq => ih q ⟨ge.trans hq, stp_b ⟨⟨e1.1, by omega⟩, e2⟩ ⟨h2, h3⟩ hq⟩
    rw [cr417_7 I, cg_1 I, u1, hM, if_neg (by omega), bit_n hs (by omega)]
    simp only [flet_eq]
    rw [w32_of (z := (i : Int) + 1) (by omega) (by omega), zs]
    by_cases h : s.testBit i = true
    · rw [if_pos h, if_neg (by decide), cr417_7 I, cr1_8 I, al_5 I (by omega) (by omega), toNat_z, show C 5 i = (b : Int) from d1.trans hb, cr417_7 I, cr1_8 I, al_5 I (by omega) (by omega), toNat_z, show C 5 i = (b : Int) from d1.trans hb, ishl_n (by omega)]
      by_cases k1 : (b : Int) = y
      · rw [if_pos k1]
        refine no (ge.trans ?_)
        unfold stp
        rw [if_pos h, if_pos (Or.inl (by rw [hb]; exact k1))]
      rw [if_neg k1, cr417_7 I, cr1_9 I, al_6 I (by omega) (by omega), toNat_z, show C 6 i = (L : Int) from d2.trans hL, iand_n (by omega), iand_n (by omega)]
      by_cases k2 : c.1 &&& L = 0
      · rw [if_pos (by omega)]
        by_cases k3 : c.2 &&& 2 ^ b = 0
        · rw [if_pos (by omega), cr417_7 I, cr1_9 I, al_6 I (by omega) (by omega), toNat_z, show C 6 i = (L : Int) from d2.trans hL, ior_n (by omega) (by omega), ior_n (by omega) (by omega)]
          refine go (c.1 ||| L, c.2 ||| 2 ^ b) ?_
          unfold stp
          rw [if_pos h, hb, hL, toNat_z, toNat_z, if_neg (fun z => by rcases z with z | z | z; exact k1 z; exact z k2; exact and_pw.mp k3 z)]
        · rw [if_neg (by omega)]
          refine no (ge.trans ?_)
          unfold stp
          rw [if_pos h, hb, hL, toNat_z, toNat_z, if_pos (Or.inr (Or.inr (Decidable.byContradiction (fun z => k3 (and_pw.mpr z)))))]
      · rw [if_neg (by omega)]
        refine no (ge.trans ?_)
        unfold stp
        rw [if_pos h, hb, hL, toNat_z, toNat_z, if_pos (Or.inr (Or.inl k2))]
    · rw [if_neg h, if_pos rfl]
      refine go c ?_
      unfold stp
      rw [if_neg h]
  · intro r c hinv
    obtain ⟨h1, h2, h3⟩ := hinv
    show f_X0_goTogether_b8B r _ _ _ _ _ _ _ = _
    unfold f_X0_goTogether_b8B
    rw [cr417_7 I, cg_1 I, u1, hM, if_pos (by omega), h1]
    rfl
end TG
