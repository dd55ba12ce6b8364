section R1
variable {m : Nat} {S : jSt} {F : Nat → Nat → Int}
theorem s_isLot (R : RI m S F) (hL : 0 ≤ F 1 0 ∧ F 1 0 ≤ 12) (l : Int) : f_X12_isLot (m : Int) l (rS m S F) = some (b01 (0 ≤ l ∧ l < F 1 0), rS m S F) := by
  unfold f_X12_isLot
  rw [r_a R, r_al R (by omega) (by omega), show (0 : Int).toNat = 0 from rfl, w32_of (by omega) (by omega), s_isIn, fcall_some]
  unfold b01
  congr 2
  by_cases h : 0 ≤ l ∧ l < F 1 0
  · rw [if_pos h, if_pos (by omega)]
  · rw [if_neg h, if_neg (by omega)]
theorem s_isBidder (R : RI m S F) (hB : 0 ≤ F 1 1 ∧ F 1 1 ≤ 5) (b : Int) : f_X12_isBidder (m : Int) b (rS m S F) = some (b01 (0 ≤ b ∧ b < F 1 1), rS m S F) := by
  unfold f_X12_isBidder
  rw [r_a R, r_al R (by omega) (by omega), show (1 : Int).toNat = 1 from rfl, w32_of (by omega) (by omega), s_isIn, fcall_some]
  unfold b01
  congr 2
  by_cases h : 0 ≤ b ∧ b < F 1 1
  · rw [if_pos h, if_pos (by omega)]
  · rw [if_neg h, if_neg (by omega)]
/-- the floor of the sale -/
def sfl (a : Nat → Int) : Int := if 5 ≤ a 7 then 5 else a 7
theorem s_saleFloor (R : RI m S F) : f_X12_saleFloor (m : Int) (rS m S F) = some (sfl (F 1), rS m S F) := by
  unfold f_X12_saleFloor f_X12_saleFloor_b22 sfl
  rw [r_a R, r_al R (by omega) (by omega), show (7 : Int).toNat = 7 from rfl]
  by_cases h : 5 ≤ F 1 7
  · rw [if_pos h, if_pos h]
  · rw [if_neg h, if_neg h, r_a R, r_al R (by omega) (by omega), show (7 : Int).toNat = 7 from rfl]
theorem s_isInHouse (R : RI m S F) (hL : 0 ≤ F 1 0 ∧ F 1 0 ≤ 12) (l : Int) : f_X12_isInHouse (m : Int) l (rS m S F) = some (b01 ((0 ≤ l ∧ l < F 1 0) ∧ F 1 (12 + 5 * l.toNat) = 0), rS m S F) := by
  unfold f_X12_isInHouse f_X12_isInHouse_b21 f_X12_isInHouse_b22
  rw [r_cv R, s_isLot R hL, fcall_some]
  by_cases h : 0 ≤ l ∧ l < F 1 0
  · rw [if_neg (show ¬ b01 (0 ≤ l ∧ l < F 1 0) = 0 by rw [b01_0]; exact fun q => q h), r_cv R, s_get R h.1 (by omega) (by omega) (by omega), fcall_some, show 11 + 5 * l.toNat + (1 : Int).toNat = 12 + 5 * l.toNat by omega]
    unfold b01
    by_cases h2 : F 1 (12 + 5 * l.toNat) = 0
    · rw [if_pos h2, if_pos ⟨h, h2⟩]
    · rw [if_neg h2, if_neg (fun q => h2 q.2)]
  · rw [if_pos (show b01 (0 ≤ l ∧ l < F 1 0) = 0 by rw [b01_0]; exact h)]
    unfold b01
    rw [if_neg (fun q => h q.1)]
theorem s_has {s k : Nat} (hs : s < 2147483648) (hk : k < 32) (S : jSt) : f_X12_has (s : Int) (k : Int) S = some (b01 (s.testBit k = true), S) := by
  unfold f_X12_has f_X12_has_b14
  rw [bit_n hs hk]
  unfold b01
  by_cases h : s.testBit k = true
  · rw [if_pos h, if_pos rfl]
  · rw [if_neg h, if_neg (by decide)]
/-- the lots that a bidder has -/
def hasL (a : Nat → Int) (b : Int) : Nat := mk (fun l => decide (a (12 + 5 * l) = 3 + b)) (a 0).toNat
theorem s_hasLots (R : RI m S F) (hL : 0 ≤ F 1 0 ∧ F 1 0 ≤ 12) {b : Int} (hb : 0 ≤ b ∧ b < 5) : f_X12_hasLots (m : Int) b (rS m S F) = some (((hasL (F 1) b : Nat) : Int), rS m S F) := by
  have key : ∀ n i : Nat, i ≤ (F 1 0).toNat → (F 1 0).toNat - i < n → jrep (fun _ _ _ _ _ => none) (fun r => f_X12_hasLots_b4B r) n (m : Int) b ((mk (fun l => decide (F 1 (12 + 5 * l) = 3 + b)) i : Nat) : Int) (i : Int) (rS m S F) = some (((hasL (F 1) b : Nat) : Int), rS m S F) := by
    intro n
    induction n with
    | zero => intro i _ h; omega
    | succ n ih =>
      intro i hi hn
      rw [jrep_s]
      unfold f_X12_hasLots_b4B f_X12_hasLots_b34
      rw [r_a R, r_al R (by omega) (by omega), show (0 : Int).toNat = 0 from rfl]
      by_cases h : F 1 0 ≤ (i : Int)
      · rw [if_pos h]
        have e : i = (F 1 0).toNat := by omega
        rw [e]
        rfl
      · rw [if_neg h, r_cv R, s_get R (by omega) (by omega) (by omega) (by omega), fcall_some, show 11 + 5 * (i : Int).toNat + (1 : Int).toNat = 12 + 5 * i by omega, w32_of (z := 3 + b) (by omega) (by omega)]
        simp only [flet_eq]
        rw [w32_of (z := (i : Int) + 1) (by omega) (by omega), show (i : Int) + 1 = ((i + 1 : Nat) : Int) by omega]
        by_cases h2 : F 1 (12 + 5 * i) = 3 + b
        · rw [if_pos h2, ishl_n (by omega), mk_step (fun l => decide (F 1 (12 + 5 * l) = 3 + b)) (by omega) _ (by rw [if_pos (by simp [h2])])]
          exact ih (i + 1) (by omega) (by omega)
        · rw [if_neg h2, mk_step (fun l => decide (F 1 (12 + 5 * l) = 3 + b)) (by omega) _ (by rw [if_neg (by simp [h2])])]
          exact ih (i + 1) (by omega) (by omega)
  exact key jN 0 (by omega) (by unfold jN; omega)
/-- the lots in the house at a floor -/
def lotsF (a : Nat → Int) (f : Int) : Nat := mk (fun l => decide (a (12 + 5 * l) = 0 ∧ a (11 + 5 * l) = f)) (a 0).toNat
theorem s_lotsAt (R : RI m S F) (hL : 0 ≤ F 1 0 ∧ F 1 0 ≤ 12) (f : Int) : f_X12_lotsAt (m : Int) f (rS m S F) = some (((lotsF (F 1) f : Nat) : Int), rS m S F) := by
  have key : ∀ n i : Nat, i ≤ (F 1 0).toNat → (F 1 0).toNat - i < n → jrep (fun _ _ _ _ _ => none) (fun r => f_X12_lotsAt_b4B r) n (m : Int) f ((mk (fun l => decide (F 1 (12 + 5 * l) = 0 ∧ F 1 (11 + 5 * l) = f)) i : Nat) : Int) (i : Int) (rS m S F) = some (((lotsF (F 1) f : Nat) : Int), rS m S F) := by
    intro n
    induction n with
    | zero => intro i _ h; omega
    | succ n ih =>
      intro i hi hn
      rw [jrep_s]
      unfold f_X12_lotsAt_b4B f_X12_lotsAt_b39 f_X12_lotsAt_b40
      rw [r_a R, r_al R (by omega) (by omega), show (0 : Int).toNat = 0 from rfl]
      by_cases h : F 1 0 ≤ (i : Int)
      · rw [if_pos h]
        have e : i = (F 1 0).toNat := by omega
        rw [e]
        rfl
      · rw [if_neg h, r_cv R, s_isInHouse R hL, fcall_some, show (i : Int).toNat = i from Int.toNat_natCast i]
        simp only [flet_eq]
        rw [w32_of (z := (i : Int) + 1) (by omega) (by omega), show (i : Int) + 1 = ((i + 1 : Nat) : Int) by omega]
        have ihn := ih (i + 1) (by omega) (by omega)
        by_cases h2 : F 1 (12 + 5 * i) = 0
        · rw [if_neg (show ¬ b01 ((0 ≤ (i : Int) ∧ (i : Int) < F 1 0) ∧ F 1 (12 + 5 * i) = 0) = 0 by rw [b01_0]; exact fun q => q ⟨⟨by omega, by omega⟩, h2⟩), r_cv R, s_get R (by omega) (by omega) (by omega) (by omega), fcall_some, show 11 + 5 * (i : Int).toNat + (0 : Int).toNat = 11 + 5 * i by omega]
          by_cases h3 : F 1 (11 + 5 * i) = f
          · rw [if_pos h3, ishl_n (by omega), mk_step (fun l => decide (F 1 (12 + 5 * l) = 0 ∧ F 1 (11 + 5 * l) = f)) (by omega) _ (by rw [if_pos (by simp [h2, h3])])]
            exact ihn
          · rw [if_neg h3, mk_step (fun l => decide (F 1 (12 + 5 * l) = 0 ∧ F 1 (11 + 5 * l) = f)) (by omega) _ (by rw [if_neg (by simp [h3])])]
            exact ihn
        · rw [if_pos (show b01 ((0 ≤ (i : Int) ∧ (i : Int) < F 1 0) ∧ F 1 (12 + 5 * i) = 0) = 0 by rw [b01_0]; exact fun q => h2 q.2), mk_step (fun l => decide (F 1 (12 + 5 * l) = 0 ∧ F 1 (11 + 5 * l) = f)) (by omega) _ (by rw [if_neg (by simp [h2])])]
          exact ihn
  exact key jN 0 (by omega) (by unfold jN; omega)
end R1
