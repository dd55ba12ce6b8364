/-- below t as u has it, from t on as a has it -/
def thr (u a : Nat → Int) (t : Nat) : Nat → Int := fun k => if k < t then u k else a k
theorem thr_step {u a : Nat → Int} {t p : Nat} {z : Int} (h : ∀ k, t ≤ k → k < p → u k = a k) (hz : z = u p) (ht : t ≤ p) : va_up (thr u a t) p z = thr u a (p + 1) := by
  subst hz
  funext k
  unfold va_up thr
  by_cases h1 : k = p
  · rw [if_pos h1, if_pos (by omega), h1]
  · rw [if_neg h1]
    by_cases h2 : k < t
    · rw [if_pos h2, if_pos (by omega)]
    · rw [if_neg h2]
      by_cases h3 : k < p + 1
      · rw [if_pos h3, h k (by omega) (by omega)]
      · rw [if_neg h3]
theorem thr_skip {u a : Nat → Int} {t p : Nat} (h : ∀ k, t ≤ k → k < p → u k = a k) (ht : t ≤ p) : thr u a t = thr u a p := by
  funext k
  unfold thr
  by_cases h2 : k < t
  · rw [if_pos h2, if_pos (by omega)]
  · rw [if_neg h2]
    by_cases h3 : k < p
    · rw [if_pos h3, h k (by omega) h3]
    · rw [if_neg h3]
theorem thr_hi {u a : Nat → Int} {t k : Nat} (h : t ≤ k) : thr u a t k = a k := by
  unfold thr
  rw [if_neg (by omega)]
theorem thr_lo {u a : Nat → Int} {t k : Nat} (h : k < t) : thr u a t k = u k := by
  unfold thr
  rw [if_pos h]
section R4
variable {m : Nat} {S : jSt} {F : Nat → Nat → Int}
def shA (a : Nat → Int) : Nat → Int := va_up (fillI a 193 (fun j => a (348 + j)) 4495) 4 29
def keepA (a : Nat → Int) : Nat → Int := if a 4 = 30 then keepB (shA a) else keepB a
theorem k13 (R : RI m S F) (a : Nat → Int) (h4 : a 4 = 30) : ∀ n k : Nat, k ≤ 4495 → 4495 - k < n → jrep (fun _ _ _ => none) (fun r => f_X12_keep_b13B r) n (m : Int) (k : Int) (rA m S F (fillI a 193 (fun j => a (348 + j)) k)) = some (0, rA m S F (keepB (shA a))) := by
  intro n
  induction n with
  | zero => intro k _ h; omega
  | succ n ih =>
    intro k hk hn
    rw [jrep_s]
    unfold f_X12_keep_b13B
    by_cases h : (4495 : Int) ≤ (k : Int)
    · have e : k = 4495 := by omega
      subst e
      rw [if_pos h]
      simp (disch := first | omega | exact R | exact rU R _) only [r_a, r_al, r_st, va_up_self, va_uu, show (4 : Int).toNat = 4 from rfl]
      rw [fillI_out (by omega), h4, show w32 (30 - 1) = 29 by decide]
      have h9 := s_keep56 (rU R (shA a)) (by rw [va_up_self]; unfold shA; rw [va_up_self]; omega)
      simp only [rA, va_up_self, va_uu] at h9
      exact h9
    · rw [if_neg h]
      simp (disch := first | omega | exact R | exact rU R _) only [r_a, r_al, r_st, va_up_self, va_uu, flet_eq, w32_of, show (348 + (k : Int)).toNat = 348 + k by omega, show (193 + (k : Int)).toNat = 193 + k by omega, show (k : Int) + 1 = ((k + 1 : Nat) : Int) by omega]
      rw [fillI_step a 193 (fun j => a (348 + j)) k (by rw [fillI_out (by omega)]) rfl]
      exact ih (k + 1) (by omega) (by omega)
theorem va_id {α : Type} (f : Nat → α) (k : Nat) : va_up f k (f k) = f := by
  funext j
  unfold va_up
  by_cases h : j = k
  · rw [if_pos h, h]
  · rw [if_neg h]
theorem s_keep (R : RI m S F) (h4 : 0 ≤ F 1 4 ∧ F 1 4 ≤ 30) : f_X12_keep (m : Int) (rS m S F) = some (0, rA m S F (keepA (F 1))) := by
  unfold f_X12_keep keepA
  simp (disch := first | omega | exact R | exact rU R _) only [r_a, r_al, show (4 : Int).toNat = 4 from rfl]
  by_cases h : F 1 4 = 30
  · rw [if_pos h, if_pos h]
    have h9 := k13 R (F 1) h jN 0 (by omega) (by unfold jN; omega)
    rw [fillI_0] at h9
    simp only [rA, va_id] at h9
    exact h9
  · rw [if_neg h, if_neg h]
    exact s_keep56 R (by omega)
/-- a step is taken back -/
def undX (a : Nat → Int) : Nat := 193 + 155 * (a 4 - 1).toNat
def undoA (a : Nat → Int) : Nat → Int := fun k =>
  if k = 4 then a 4 - 1 else if 7 ≤ k ∧ k < 11 then a (undX a + 2 + (k - 7))
  else if 11 ≤ k ∧ k < 71 then (if ((k - 11) / 5 : Nat) < a 0 then (if (k - 11) % 5 = 0 then (if ((k - 11) / 5 : Nat) < a (undX a) then a (undX a + 6 + 2 * ((k - 11) / 5)) else a (11 + 5 * ((k - 11) / 5) + 4)) else if (k - 11) % 5 = 1 then (if ((k - 11) / 5 : Nat) < a (undX a) then a (undX a + 7 + 2 * ((k - 11) / 5)) else 0) else a k) else a k)
  else if 71 ≤ k ∧ k < 141 then (if ((k - 71) / 14 : Nat) < a 1 then (if ((k - 71) / 14 : Nat) < a (undX a + 1) then (if (k - 71) % 14 < 13 then a (undX a + 30 + 13 * ((k - 71) / 14) + (k - 71) % 14) else a k) else if (k - 71) % 14 = 0 then a (71 + 14 * ((k - 71) / 14) + 13) else a k) else a k)
  else if 4843 ≤ k ∧ k < 4903 then a (undX a + 95 + (k - 4843)) else a k
theorem undoA_pl (a : Nat → Int) {k : Nat} (h : (4 < k ∧ k < 7) ∨ (141 ≤ k ∧ k < 4843) ∨ k < 4 ∨ 4903 ≤ k) : undoA a k = a k := by
  unfold undoA
  rw [if_neg (by omega), if_neg (by omega), if_neg (by omega), if_neg (by omega), if_neg (by omega)]
theorem undoA_7 (a : Nat → Int) {j : Nat} (h : j < 4) : undoA a (7 + j) = a (undX a + 2 + j) := by
  unfold undoA
  rw [if_neg (by omega), if_pos (by omega), Nat.add_sub_cancel_left]
theorem undoA_l (a : Nat → Int) {l w : Nat} (hl : l < 12) (hw : w < 5) : undoA a (11 + 5 * l + w) = if (l : Int) < a 0 then (if w = 0 then (if (l : Int) < a (undX a) then a (undX a + 6 + 2 * l) else a (11 + 5 * l + 4)) else if w = 1 then (if (l : Int) < a (undX a) then a (undX a + 7 + 2 * l) else 0) else a (11 + 5 * l + w)) else a (11 + 5 * l + w) := by
  unfold undoA
  rw [if_neg (by omega), if_neg (by omega), if_pos (by omega), show (11 + 5 * l + w - 11) / 5 = l by omega, show (11 + 5 * l + w - 11) % 5 = w by omega]
theorem undoA_b (a : Nat → Int) {b w : Nat} (hb : b < 5) (hw : w < 14) : undoA a (71 + 14 * b + w) = if (b : Int) < a 1 then (if (b : Int) < a (undX a + 1) then (if w < 13 then a (undX a + 30 + 13 * b + w) else a (71 + 14 * b + w)) else if w = 0 then a (71 + 14 * b + 13) else a (71 + 14 * b + w)) else a (71 + 14 * b + w) := by
  unfold undoA
  rw [if_neg (by omega), if_neg (by omega), if_neg (by omega), if_pos (by omega), show (71 + 14 * b + w - 71) / 14 = b by omega, show (71 + 14 * b + w - 71) % 14 = w by omega]
theorem undoA_k (a : Nat → Int) {j : Nat} (h : j < 60) : undoA a (4843 + j) = a (undX a + 95 + j) := by
  unfold undoA
  rw [if_neg (by omega), if_neg (by omega), if_neg (by omega), if_neg (by omega), if_pos (by omega), Nat.add_sub_cancel_left]
theorem u250 (R : RI m S F) (a : Nat → Int) (h4 : 1 ≤ a 4 ∧ a 4 ≤ 30) : ∀ n k : Nat, k ≤ 60 → 60 - k < n → jrep (fun _ _ _ _ => none) (fun r => f_X12_undo_b250B r) n (m : Int) (undX a : Int) (k : Int) (rA m S F (thr (undoA a) a (4843 + k))) = some (a 4 - 1, rA m S F (undoA a)) := by
  have hX : 193 ≤ undX a ∧ undX a + 155 ≤ 4843 := by unfold undX; omega
  intro n
  induction n with
  | zero => intro k _ h; omega
  | succ n ih =>
    intro k hk hn
    rw [jrep_s]
    unfold f_X12_undo_b250B
    by_cases h : (60 : Int) ≤ (k : Int)
    · have e : k = 60 := by omega
      subst e
      rw [if_pos h]
      simp (disch := first | omega | exact R | exact rU R _) only [r_a, r_al, va_up_self, show (4 : Int).toNat = 4 from rfl]
      have e2 : thr (undoA a) a (4843 + 60) = undoA a := by
        funext k
        unfold thr
        by_cases h9 : k < 4843 + 60
        · rw [if_pos h9]
        · rw [if_neg h9, undoA_pl a (by omega)]
      rw [e2]
      unfold undoA
      rw [if_pos rfl]
    · rw [if_neg h]
      simp (disch := first | omega | exact R | exact rU R _) only [r_a, r_al, r_st, va_up_self, va_uu, flet_eq, w32_of, show (4843 + (k : Int)).toNat = 4843 + k by omega, show ((undX a : Int) + 95 + (k : Int)).toNat = undX a + 95 + k by omega, show (k : Int) + 1 = ((k + 1 : Nat) : Int) by omega]
      rw [thr_step (fun j h1 h2 => absurd h1 (by omega)) (by rw [thr_lo (by omega), undoA_k a (by omega), undoA_pl a (by omega)]) (by omega)]
      exact ih (k + 1) (by omega) (by omega)
theorem u196 (R : RI m S F) (a : Nat → Int) (h4 : 1 ≤ a 4 ∧ a 4 ≤ 30) {r : Int → Int → Int → jSt → Option (Int × jSt)} {res : Option (Int × jSt)} {b : Nat} (hb : b < 5) (hb1 : (b : Int) < a 1) (hr : r (m : Int) (undX a : Int) ((b + 1 : Nat) : Int) (rA m S F (thr (undoA a) a (71 + 14 * (b + 1)))) = res) : ∀ n k : Nat, k ≤ 13 → 13 - k < n → ∀ t : Nat, ((t = 71 + 14 * b + k ∧ (b : Int) < a (undX a + 1)) ∨ ((k = 0 ∧ t = 71 + 14 * b + 1) ∧ a (undX a + 1) ≤ (b : Int))) → jrep (fun _ _ _ _ _ => none) (fun r2 => f_X12_undo_b196B r r2) n (m : Int) (undX a : Int) (b : Int) (k : Int) (rA m S F (thr (undoA a) a t)) = res := by
  have hX : 193 ≤ undX a ∧ undX a + 155 ≤ 4843 := by unfold undX; omega
  intro n
  induction n with
  | zero => intro k _ h; omega
  | succ n ih =>
    intro k hk hn t ht
    rw [jrep_s]
    unfold f_X12_undo_b196B f_X12_undo_b242
    by_cases h : (13 : Int) ≤ (k : Int)
    · have e : k = 13 := by omega
      subst e
      rw [if_pos h, flet_eq, w32_of (by omega) (by omega), show (b : Int) + 1 = ((b + 1 : Nat) : Int) by omega]
      have et : t = 71 + 14 * b + 13 := by omega
      rw [et, thr_skip (p := 71 + 14 * (b + 1)) (fun j h1 h2 => by
        have e9 : j = 71 + 14 * b + 13 := by omega
        rw [e9, undoA_b a hb (by omega), if_pos hb1]
        by_cases h9 : (b : Int) < a (undX a + 1)
        · rw [if_pos h9, if_neg (by omega)]
        · rw [if_neg h9, if_neg (by omega)]) (by omega)]
      exact hr
    · rw [if_neg h]
      simp (disch := first | omega | exact R | exact rU R _) only [r_a, r_al, va_up_self, w32_of, show ((undX a : Int) + 1).toNat = undX a + 1 by omega]
      have e1 : thr (undoA a) a t (undX a + 1) = a (undX a + 1) := thr_hi (by omega)
      rw [e1]
      by_cases h2 : a (undX a + 1) ≤ (b : Int)
      · rw [if_pos h2, flet_eq, show (b : Int) + 1 = ((b + 1 : Nat) : Int) by omega, thr_skip (p := 71 + 14 * (b + 1)) (fun j h1 h2' => by
          obtain ⟨w, hw, rfl⟩ : ∃ w, w < 14 ∧ j = 71 + 14 * b + w := ⟨j - (71 + 14 * b), by omega, by omega⟩
          rw [undoA_b a hb hw, if_pos hb1, if_neg (by omega)]
          rw [if_neg (by omega)]) (by omega)]
        exact hr
      · have et : t = 71 + 14 * b + k := by omega
        rw [if_neg h2]
        simp (disch := first | omega | exact R | exact rU R _) only [r_a, r_al, r_cv, s_lay, fcall_some, va_up_self, va_uu, flet_eq, w32_of, toNat_z, show ((undX a : Int) + 30 + 13 * (b : Int) + (k : Int)).toNat = undX a + 30 + 13 * b + k by omega, show (k : Int) + 1 = ((k + 1 : Nat) : Int) by omega]
        rw [et, thr_step (fun j h1 h2 => absurd h1 (by omega)) (by rw [thr_hi (by omega), undoA_b a hb (by omega), if_pos hb1, if_pos (by omega), if_pos (by omega)]) (by omega)]
        exact ih (k + 1) (by omega) (by omega) _ (Or.inl ⟨rfl, by omega⟩)
end R4
