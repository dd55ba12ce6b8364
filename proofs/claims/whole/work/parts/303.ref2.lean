theorem if_b01 {α : Sort _} {c : Prop} [Decidable c] {x y : α} : (if b01 c = 0 then x else y) = if c then y else x := by
  unfold b01
  by_cases h : c <;> simp [h]
theorem va_uu {α : Type} (f : Nat → α) (k : Nat) (v w : α) : va_up (va_up f k v) k w = va_up f k w := bx_uu f k v w
theorem toNat_z (n : Nat) : ((n : Nat) : Int).toNat = n := Int.toNat_natCast n
/-- a row filled, place by place -/
def fillI (a : Nat → Int) (d : Nat) (g : Nat → Int) (n : Nat) : Nat → Int := fun k => if d ≤ k ∧ k < d + n then g (k - d) else a k
theorem fillI_0 (a : Nat → Int) (d : Nat) (g : Nat → Int) : fillI a d g 0 = a := by
  funext k
  unfold fillI
  rw [if_neg (by omega)]
theorem fillI_step (a : Nat → Int) (d : Nat) (g : Nat → Int) (n : Nat) {z : Int} {p : Nat} (hz : z = g n) (hp : p = d + n) : va_up (fillI a d g n) p z = fillI a d g (n + 1) := by
  subst hz; subst hp
  funext k
  unfold va_up fillI
  by_cases h : k = d + n
  · rw [if_pos h, if_pos (by omega), h, Nat.add_sub_cancel_left]
  · rw [if_neg h]
    by_cases h2 : d ≤ k ∧ k < d + n
    · rw [if_pos h2, if_pos (by omega)]
    · rw [if_neg h2, if_neg (by omega)]
theorem fillI_out {a : Nat → Int} {d : Nat} {g : Nat → Int} {n k : Nat} (h : k < d ∨ d + n ≤ k) : fillI a d g n k = a k := by
  unfold fillI
  rw [if_neg (by omega)]
theorem fillI_in {a : Nat → Int} {d : Nat} {g : Nat → Int} {n k : Nat} (h : k < n) : fillI a d g n (d + k) = g k := by
  unfold fillI
  rw [if_pos (by omega), Nat.add_sub_cancel_left]
section R2
variable {m : Nat} {S : jSt} {F : Nat → Nat → Int}
theorem rU (R : RI m S F) (v : Nat → Int) : RI m S (va_up F 1 v) := RI_up R (by decide)
/-- lot -/
def lotA (a : Nat → Int) (fl wo we : Int) : Nat → Int :=
  va_up (va_up (va_up (va_up (va_up (va_up a (11 + 5 * (a 0).toNat + 0) fl) (11 + 5 * (a 0).toNat + 1) 0) (11 + 5 * (a 0).toNat + 2) wo) (11 + 5 * (a 0).toNat + 3) we) (11 + 5 * (a 0).toNat + 4) fl) 0 (a 0 + 1)
theorem s_lot (R : RI m S F) (hL : 0 ≤ F 1 0 ∧ F 1 0 ≤ 12) (fl wo we : Int) : f_X12_lot (m : Int) fl wo we (rS m S F) = if (0 ≤ fl ∧ fl ≤ 5) ∧ (0 ≤ wo ∧ wo ≤ 99) ∧ (1 ≤ we ∧ we ≤ 9) ∧ ¬ F 1 0 = 12 then some (F 1 0, rS m S (va_up F 1 (lotA (F 1) fl wo we))) else some (-1, rS m S F) := by
  unfold f_X12_lot f_X12_lot_b38
  simp only [s_isFloor, s_isIn, fcall_some, if_b01, r_a R]
  simp (disch := omega) only [r_al R, show (0 : Int).toNat = 0 from rfl]
  by_cases h1 : 0 ≤ fl ∧ fl ≤ 5
  · by_cases h2 : 0 ≤ wo ∧ wo ≤ 99
    · by_cases h3 : 1 ≤ we ∧ we ≤ 9
      · by_cases h4 : F 1 0 = 12
        · rw [if_pos h1, if_pos h2, if_pos h3, if_pos h4, if_neg (fun q => q.2.2.2 h4)]
        · rw [if_pos h1, if_pos h2, if_pos h3, if_neg h4, if_pos ⟨h1, h2, h3, h4⟩]
          have hl : F 1 0 < 12 := by omega
          simp (disch := first | omega | exact R | exact rU R _) only [r_cv, s_put, fcall_some, va_up_self, va_uu, r_a, r_al, r_st, w32_of, va_up_ne, show (0 : Int).toNat = 0 from rfl, show (1 : Int).toNat = 1 from rfl, show (2 : Int).toNat = 2 from rfl, show (3 : Int).toNat = 3 from rfl, show (4 : Int).toNat = 4 from rfl]
          rfl
      · rw [if_pos h1, if_pos h2, if_neg h3, if_neg (fun q => h3 q.2.2.1)]
    · rw [if_pos h1, if_neg h2, if_neg (fun q => h2 q.2.1)]
  · rw [if_neg h1, if_neg (fun q => h1 q.1)]
/-- what a step keeps, place by place -/
def rowOf (a : Nat → Int) (j : Nat) : Int := if j = 0 then a 0 else if j = 1 then a 1 else if j < 6 then a (7 + (j - 2)) else if j < 30 then a (11 + 5 * ((j - 6) / 2) + (j - 6) % 2) else if j < 95 then a (71 + 14 * ((j - 30) / 13) + (j - 30) % 13) else a (4843 + (j - 95))
end R2
