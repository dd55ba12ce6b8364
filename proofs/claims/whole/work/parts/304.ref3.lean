section R3
variable {m : Nat} {S : jSt} {F : Nat → Nat → Int}
/-- the state with the array a in its place -/
abbrev rA (m : Nat) (S : jSt) (F : Nat → Nat → Int) (a : Nat → Int) : jSt := rS m S (va_up F 1 a)
theorem wadd {a b : Nat} (h : a + b < 2147483648) : w32 ((a : Int) + (b : Int)) = ((a + b : Nat) : Int) := by
  rw [w32_of (by omega) (by omega)]
  omega
theorem k228 (R : RI m S F) (a : Nat → Int) (X : Nat) (hX : 193 ≤ X ∧ X + 155 ≤ 4843) (h4 : 0 ≤ a 4 ∧ a 4 < 30) : ∀ n k : Nat, k ≤ 60 → 60 - k < n → jrep (fun _ _ _ _ => none) (fun r => f_X12_keep_b228B r) n (m : Int) (X : Int) (k : Int) (rA m S F (fillI a X (rowOf a) (95 + k))) = some (0, rA m S F (va_up (fillI a X (rowOf a) 155) 4 (a 4 + 1))) := by
  intro n
  induction n with
  | zero => intro k _ h; omega
  | succ n ih =>
    intro k hk hn
    rw [jrep_s]
    unfold f_X12_keep_b228B
    by_cases h : (60 : Int) ≤ (k : Int)
    · have e : k = 60 := by omega
      subst e
      rw [if_pos h]
      simp (disch := first | omega | exact R | exact rU R _) only [r_a, r_al, r_st, va_up_self, va_uu, show (4 : Int).toNat = 4 from rfl]
      rw [fillI_out (by omega), w32_of (by omega) (by omega)]
    · rw [if_neg h]
      simp (disch := first | omega | exact R | exact rU R _) only [r_a, r_al, r_st, va_up_self, va_uu, flet_eq, w32_of, show (4843 + (k : Int)).toNat = 4843 + k by omega, show ((X : Int) + 95 + (k : Int)).toNat = X + (95 + k) by omega, show (k : Int) + 1 = ((k + 1 : Nat) : Int) by omega]
      rw [fillI_step a X (rowOf a) (95 + k) (by rw [fillI_out (by omega)]; unfold rowOf; rw [if_neg (by omega), if_neg (by omega), if_neg (by omega), if_neg (by omega), if_neg (by omega), Nat.add_sub_cancel_left]) rfl]
      exact ih (k + 1) (by omega) (by omega)
theorem k186 (R : RI m S F) (a : Nat → Int) (X : Nat) (hX : 193 ≤ X ∧ X + 155 ≤ 4843) {r : Int → Int → Int → jSt → Option (Int × jSt)} {res : Option (Int × jSt)} {b : Nat} (hb : b < 5) (hr : r (m : Int) (X : Int) ((b + 1 : Nat) : Int) (rA m S F (fillI a X (rowOf a) (30 + 13 * (b + 1)))) = res) : ∀ n k : Nat, k ≤ 13 → 13 - k < n → jrep (fun _ _ _ _ _ => none) (fun r2 => f_X12_keep_b186B r r2) n (m : Int) (X : Int) (b : Int) (k : Int) (rA m S F (fillI a X (rowOf a) (30 + 13 * b + k))) = res := by
  intro n
  induction n with
  | zero => intro k _ h; omega
  | succ n ih =>
    intro k hk hn
    rw [jrep_s]
    unfold f_X12_keep_b186B
    by_cases h : (13 : Int) ≤ (k : Int)
    · have e : k = 13 := by omega
      subst e
      rw [if_pos h, flet_eq, w32_of (by omega) (by omega), show (b : Int) + 1 = ((b + 1 : Nat) : Int) by omega, show 30 + 13 * b + 13 = 30 + 13 * (b + 1) by omega]
      exact hr
    · rw [if_neg h]
      simp (disch := first | omega | exact R | exact rU R _) only [r_a, r_cv, s_own, fcall_some, r_al, r_st, va_up_self, va_uu, flet_eq, w32_of, show (b : Int).toNat = b from rfl, show (k : Int).toNat = k from rfl, show ((X : Int) + 30 + 13 * (b : Int) + (k : Int)).toNat = X + (30 + 13 * b + k) by omega, show (k : Int) + 1 = ((k + 1 : Nat) : Int) by omega]
      rw [fillI_step a X (rowOf a) (30 + 13 * b + k) (by
        rw [fillI_out (by omega)]
        unfold rowOf
        rw [if_neg (by omega), if_neg (by omega), if_neg (by omega), if_neg (by omega), if_pos (by omega), show (30 + 13 * b + k - 30) / 13 = b by omega, show (30 + 13 * b + k - 30) % 13 = k by omega]) rfl]
      exact ih (k + 1) (by omega) (by omega)
theorem k179 (R : RI m S F) (a : Nat → Int) (X : Nat) (hX : 193 ≤ X ∧ X + 155 ≤ 4843) (h4 : 0 ≤ a 4 ∧ a 4 < 30) : ∀ n b : Nat, b ≤ 5 → 5 - b < n → jrep (fun _ _ _ _ => none) (fun r => f_X12_keep_b179B r) n (m : Int) (X : Int) (b : Int) (rA m S F (fillI a X (rowOf a) (30 + 13 * b))) = some (0, rA m S F (va_up (fillI a X (rowOf a) 155) 4 (a 4 + 1))) := by
  intro n
  induction n with
  | zero => intro b _ h; omega
  | succ n ih =>
    intro b hb hn
    rw [jrep_s]
    unfold f_X12_keep_b179B
    by_cases h : (5 : Int) ≤ (b : Int)
    · have e : b = 5 := by omega
      subst e
      rw [if_pos h]
      exact k228 R a X hX h4 jN 0 (by omega) (by unfold jN; omega)
    · rw [if_neg h]
      exact k186 R a X hX (by omega) (ih (b + 1) (by omega) (by omega)) jN 0 (by omega) (by unfold jN; omega)
theorem k139 (R : RI m S F) (a : Nat → Int) (X : Nat) (hX : 193 ≤ X ∧ X + 155 ≤ 4843) {r : Int → Int → Int → jSt → Option (Int × jSt)} {res : Option (Int × jSt)} {b : Nat} (hb : b < 12) (hr : r (m : Int) (X : Int) ((b + 1 : Nat) : Int) (rA m S F (fillI a X (rowOf a) (6 + 2 * (b + 1)))) = res) : ∀ n k : Nat, k ≤ 2 → 2 - k < n → jrep (fun _ _ _ _ _ => none) (fun r2 => f_X12_keep_b139B r r2) n (m : Int) (X : Int) (b : Int) (k : Int) (rA m S F (fillI a X (rowOf a) (6 + 2 * b + k))) = res := by
  intro n
  induction n with
  | zero => intro k _ h; omega
  | succ n ih =>
    intro k hk hn
    rw [jrep_s]
    unfold f_X12_keep_b139B
    by_cases h : (2 : Int) ≤ (k : Int)
    · have e : k = 2 := by omega
      subst e
      rw [if_pos h, flet_eq, w32_of (by omega) (by omega), show (b : Int) + 1 = ((b + 1 : Nat) : Int) by omega, show 6 + 2 * b + 2 = 6 + 2 * (b + 1) by omega]
      exact hr
    · rw [if_neg h]
      simp (disch := first | omega | exact R | exact rU R _) only [r_a, r_cv, s_get, fcall_some, r_al, r_st, va_up_self, va_uu, flet_eq, w32_of, show (b : Int).toNat = b from rfl, show (k : Int).toNat = k from rfl, show ((X : Int) + 6 + 2 * (b : Int) + (k : Int)).toNat = X + (6 + 2 * b + k) by omega, show (k : Int) + 1 = ((k + 1 : Nat) : Int) by omega]
      rw [fillI_step a X (rowOf a) (6 + 2 * b + k) (by
        rw [fillI_out (by omega)]
        unfold rowOf
        rw [if_neg (by omega), if_neg (by omega), if_neg (by omega), if_pos (by omega), show (6 + 2 * b + k - 6) / 2 = b by omega, show (6 + 2 * b + k - 6) % 2 = k by omega]) rfl]
      exact ih (k + 1) (by omega) (by omega)
theorem k131 (R : RI m S F) (a : Nat → Int) (X : Nat) (hX : 193 ≤ X ∧ X + 155 ≤ 4843) (h4 : 0 ≤ a 4 ∧ a 4 < 30) : ∀ n b : Nat, b ≤ 12 → 12 - b < n → jrep (fun _ _ _ _ => none) (fun r => f_X12_keep_b131B r) n (m : Int) (X : Int) (b : Int) (rA m S F (fillI a X (rowOf a) (6 + 2 * b))) = some (0, rA m S F (va_up (fillI a X (rowOf a) 155) 4 (a 4 + 1))) := by
  intro n
  induction n with
  | zero => intro b _ h; omega
  | succ n ih =>
    intro b hb hn
    rw [jrep_s]
    unfold f_X12_keep_b131B
    by_cases h : (12 : Int) ≤ (b : Int)
    · have e : b = 12 := by omega
      subst e
      rw [if_pos h]
      exact k179 R a X hX h4 jN 0 (by omega) (by unfold jN; omega)
    · rw [if_neg h]
      exact k139 R a X hX (by omega) (ih (b + 1) (by omega) (by omega)) jN 0 (by omega) (by unfold jN; omega)
theorem k99 (R : RI m S F) (a : Nat → Int) (X : Nat) (hX : 193 ≤ X ∧ X + 155 ≤ 4843) (h4 : 0 ≤ a 4 ∧ a 4 < 30) : ∀ n k : Nat, k ≤ 4 → 4 - k < n → jrep (fun _ _ _ _ => none) (fun r => f_X12_keep_b99B r) n (m : Int) (X : Int) (k : Int) (rA m S F (fillI a X (rowOf a) (2 + k))) = some (0, rA m S F (va_up (fillI a X (rowOf a) 155) 4 (a 4 + 1))) := by
  intro n
  induction n with
  | zero => intro k _ h; omega
  | succ n ih =>
    intro k hk hn
    rw [jrep_s]
    unfold f_X12_keep_b99B
    by_cases h : (4 : Int) ≤ (k : Int)
    · have e : k = 4 := by omega
      subst e
      rw [if_pos h]
      exact k131 R a X hX h4 jN 0 (by omega) (by unfold jN; omega)
    · rw [if_neg h]
      simp (disch := first | omega | exact R | exact rU R _) only [r_a, r_al, r_st, va_up_self, va_uu, flet_eq, w32_of, show (7 + (k : Int)).toNat = 7 + k by omega, show ((X : Int) + 2 + (k : Int)).toNat = X + (2 + k) by omega, show (k : Int) + 1 = ((k + 1 : Nat) : Int) by omega]
      rw [fillI_step a X (rowOf a) (2 + k) (by
        rw [fillI_out (by omega)]
        unfold rowOf
        rw [if_neg (by omega), if_neg (by omega), if_pos (by omega), Nat.add_sub_cancel_left]) rfl]
      exact ih (k + 1) (by omega) (by omega)
/-- a step is kept, there being room -/
def keepB (a : Nat → Int) : Nat → Int := va_up (fillI a (193 + 155 * (a 4).toNat) (rowOf a) 155) 4 (a 4 + 1)
theorem s_keep56 (R : RI m S F) (h4 : 0 ≤ F 1 4 ∧ F 1 4 < 30) : f_X12_keep_b56 (m : Int) (rS m S F) = some (0, rA m S F (keepB (F 1))) := by
  unfold f_X12_keep_b56
  simp (disch := first | omega | exact R | exact rU R _) only [r_a, r_al, r_st, va_up_self, va_uu, flet_eq, w32_of, show (4 : Int).toNat = 4 from rfl, show (0 : Int).toNat = 0 from rfl, show (1 : Int).toNat = 1 from rfl, show (193 + 155 * F 1 4).toNat = 193 + 155 * (F 1 4).toNat by omega, show (193 + 155 * F 1 4 + 1).toNat = 193 + 155 * (F 1 4).toNat + 1 by omega]
  have h := k99 R (F 1) (193 + 155 * (F 1 4).toNat) (by omega) h4 jN 0 (by omega) (by unfold jN; omega)
  rw [show (193 + 155 * F 1 4 : Int) = ((193 + 155 * (F 1 4).toNat : Nat) : Int) by omega]
  have e : va_up (va_up (F 1) (193 + 155 * (F 1 4).toNat) (F 1 0)) (193 + 155 * (F 1 4).toNat + 1) (va_up (F 1) (193 + 155 * (F 1 4).toNat) (F 1 0) 1) = fillI (F 1) (193 + 155 * (F 1 4).toNat) (rowOf (F 1)) 2 := by
    rw [va_up_ne _ _ (show 1 ≠ 193 + 155 * (F 1 4).toNat by omega)]
    have s0 := fillI_step (F 1) (193 + 155 * (F 1 4).toNat) (rowOf (F 1)) 0 (z := F 1 0) (p := 193 + 155 * (F 1 4).toNat) rfl rfl
    rw [fillI_0] at s0
    rw [s0]
    exact fillI_step (F 1) (193 + 155 * (F 1 4).toNat) (rowOf (F 1)) 1 rfl rfl
  rw [e]
  exact h
end R3
