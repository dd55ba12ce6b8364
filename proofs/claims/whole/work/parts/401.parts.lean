-- the parts of the house, as the reference counts them
section PT
variable {m : Nat} {S : jSt} {F : Nat → Nat → Int}
def rea (e : Nat → Nat) (s : Nat) : Nat → Nat
  | 0 => s
  | j + 1 => rea e s j ||| nbr e (rea e s j) 0 6
def pts (e : Nat → Nat) : Nat → Nat × Int
  | 0 => (0, 0)
  | k + 1 => if (pts e k).1.testBit k = true then pts e k else ((pts e k).1 ||| rea e (2 ^ k) 6, (pts e k).2 + 1)
theorem rea_lt {e : Nat → Nat} (he : ∀ i, i < 6 → e i < 64) {s : Nat} (hs : s < 64) : ∀ j, rea e s j < 64
  | 0 => hs
  | j + 1 => Nat.or_lt_two_pow (n := 6) (rea_lt he hs j) (nbr_lt (by omega) 6 he)
theorem pts_b {e : Nat → Nat} (he : ∀ i, i < 6 → e i < 64) : ∀ k, k ≤ 6 → (pts e k).1 < 64 ∧ 0 ≤ (pts e k).2 ∧ (pts e k).2 ≤ (k : Int)
  | 0, _ => ⟨by show 0 < 64; omega, by show (0 : Int) ≤ 0; omega, by show (0 : Int) ≤ ((0 : Nat) : Int); omega⟩
  | k + 1, h => by
    obtain ⟨h1, h2, h3⟩ := pts_b he k (by omega)
    have p : 2 ^ k < 64 := Nat.pow_lt_pow_right (n := 6) (by decide) (by omega)
    unfold pts
    split
    · exact ⟨h1, h2, by omega⟩
    · exact ⟨Nat.or_lt_two_pow (n := 6) h1 (rea_lt he p 6), by show 0 ≤ (pts e k).2 + 1; omega, by show (pts e k).2 + 1 ≤ _; omega⟩
theorem s_parts (R : RI m S F) (W : stOK (F 1)) : f_X12_partsNow (m : Int) (rS m S F) = some ((pts (bsd (F 1)) 6).2, rS m S F) := by
  have he : ∀ i, i < 6 → bsd (F 1) i < 64 := fun i hi => (bsd_b W hi).1
  unfold f_X12_partsNow f_X12_partsNow_b6
  refine lp (fun (r : Int → Int → Int → Int → fK) i => r (m : Int) (((pts (bsd (F 1)) i).1 : Nat) : Int) (pts (bsd (F 1)) i).2 (i : Int) (rS m S F)) (N := 6) ?_ ?_ jN 0 (by omega) (by unfold jN; omega)
  · intro r i hi hr
    show f_X12_partsNow_b6B r _ _ _ _ _ = _
    unfold f_X12_partsNow_b6B f_X12_partsNow_b58
    obtain ⟨p1, p2, p3⟩ := pts_b he i (by omega)
    have p : 2 ^ i < 64 := Nat.pow_lt_pow_right (n := 6) (by decide) (by omega)
    have pe : pts (bsd (F 1)) (i + 1) = if (pts (bsd (F 1)) i).1.testBit i = true then pts (bsd (F 1)) i else ((pts (bsd (F 1)) i).1 ||| rea (bsd (F 1)) (2 ^ i) 6, (pts (bsd (F 1)) i).2 + 1) := rfl
    rw [if_neg (by omega), s_hasN p1 (by omega), fcall_some, if_b01]
    rw [pe] at hr
    by_cases h : (pts (bsd (F 1)) i).1.testBit i = true
    · rw [if_pos h, flet_eq, w32_of (by omega) (by omega), zs]
      rw [if_pos h] at hr
      exact hr
    · rw [if_neg h, flet_eq, flet_eq, ishl_n (by omega), w32_of (by omega) (by omega)]
      rw [if_neg h] at hr
      unfold f_X12_partsNow_b33
      refine lp (fun (q : Int → Int → Int → Int → Int → Int → fK) j => q (m : Int) (((pts (bsd (F 1)) i).1 : Nat) : Int) ((pts (bsd (F 1)) i).2 + 1) (i : Int) ((rea (bsd (F 1)) (2 ^ i) j : Nat) : Int) (j : Int) (rS m S F)) (N := 6) ?_ ?_ jN 0 (by omega) (by unfold jN; omega)
      · intro q j hj hq
        show f_X12_partsNow_b33B r q _ _ _ _ _ _ _ = _
        unfold f_X12_partsNow_b33B
        rw [if_neg (by omega), r_cv R, s_oneOn R W (rea_lt he p j), fcall_some, flet_eq, w32_of (by omega) (by omega), zs]
        exact hq
      · intro q
        show f_X12_partsNow_b33B r q _ _ _ _ _ _ _ = _
        unfold f_X12_partsNow_b33B f_X12_partsNow_b58
        have l6 := rea_lt he p 6
        rw [if_pos (by omega), flet_eq, flet_eq, ior_n (by omega) (by omega), w32_of (by omega) (by omega), zs]
        exact hr
  · intro r
    show f_X12_partsNow_b6B r _ _ _ _ _ = _
    unfold f_X12_partsNow_b6B
    rw [if_pos (by omega)]
end PT
