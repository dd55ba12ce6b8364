/-- a loop that counts up to N -/
theorem lp {β : Type} {z : β} {s : β → β} (E : β → Nat → Option (Int × jSt)) {N : Nat} {res : Option (Int × jSt)} (hs : ∀ r i, i < N → E r (i + 1) = res → E (s r) i = res) (he : ∀ r, E (s r) N = res) : ∀ n i, i ≤ N → N - i < n → E (jrep z s n) i = res := by
  intro n
  induction n with
  | zero => intro i _ h; omega
  | succ n ih =>
    intro i hi hn
    rw [jrep_s]
    by_cases h : i = N
    · rw [h]; exact he _
    · exact hs _ i (by omega) (ih (i + 1) (by omega) (by omega))
abbrev fK : Type := jSt → Option (Int × jSt)
theorem zs (b : Nat) : (b : Int) + 1 = ((b + 1 : Nat) : Int) := by omega
section R5
variable {m : Nat} {S : jSt} {F : Nat → Nat → Int}
theorem undoA_bhi (a : Nat → Int) {b k : Nat} (hb : a 1 ≤ (b : Int)) (h1 : 71 + 14 * b ≤ k) (h2 : k < 4843) : undoA a k = a k := by
  unfold undoA
  rw [if_neg (by omega), if_neg (by omega), if_neg (by omega)]
  by_cases h : 71 ≤ k ∧ k < 141
  · rw [if_pos h, if_neg (by omega)]
  · rw [if_neg h, if_neg (by omega)]
theorem undoA_lhi (a : Nat → Int) {b k : Nat} (hb : a 0 ≤ (b : Int)) (h1 : 11 + 5 * b ≤ k) (h2 : k < 71) : undoA a k = a k := by
  unfold undoA
  rw [if_neg (by omega), if_neg (by omega), if_pos (by omega), if_neg (by omega)]
theorem u159 (R : RI m S F) (a : Nat → Int) (h4 : 1 ≤ a 4 ∧ a 4 ≤ 30) (hB : 0 ≤ a 1 ∧ a 1 ≤ 5) : f_X12_undo_b159 (m : Int) (undX a : Int) 0 (rA m S F (thr (undoA a) a 71)) = some (a 4 - 1, rA m S F (undoA a)) := by
  have hX : 193 ≤ undX a ∧ undX a + 155 ≤ 4843 := by unfold undX; omega
  refine lp (fun (r : Int → Int → Int → fK) b => r (m : Int) (undX a : Int) (b : Int) (rA m S F (thr (undoA a) a (71 + 14 * b)))) (N := (a 1).toNat) ?_ ?_ jN 0 (by omega) (by unfold jN; omega)
  · intro r b hb ih
    show f_X12_undo_b159B r _ _ _ _ = _
    unfold f_X12_undo_b159B f_X12_undo_b194 f_X12_undo_b196
    simp (disch := first | omega | exact R | exact rU R _) only [r_a, r_al, r_cv, s_own, s_lay, fcall_some, va_up_self, va_uu, flet_eq, w32_of, toNat_z, show ((undX a : Int) + 1).toNat = undX a + 1 by omega, show (1 : Int).toNat = 1 from rfl, show (13 : Int).toNat = 13 from rfl, show (0 : Int).toNat = 0 from rfl]
    rw [thr_lo (by omega), undoA_pl a (by omega), if_neg (by omega), thr_hi (by omega)]
    by_cases h : (b : Int) < a (undX a + 1)
    · rw [if_pos h]
      exact u196 R a h4 (by omega) (by omega) ih jN 0 (by omega) (by unfold jN; omega) _ (Or.inl ⟨rfl, h⟩)
    · rw [if_neg h, thr_step (fun j h1 h2 => absurd h1 (by omega)) (by rw [thr_hi (by omega), undoA_b a (by omega) (by omega), if_pos (by omega), if_neg (by omega), if_pos (by omega)]) (by omega)]
      exact u196 R a h4 (by omega) (by omega) ih jN 0 (by omega) (by unfold jN; omega) _ (Or.inr ⟨⟨rfl, rfl⟩, by omega⟩)
  · intro r
    show f_X12_undo_b159B r _ _ _ _ = _
    unfold f_X12_undo_b159B f_X12_undo_b250
    simp (disch := first | omega | exact R | exact rU R _) only [r_a, r_al, va_up_self, show (1 : Int).toNat = 1 from rfl]
    rw [thr_lo (by omega), undoA_pl a (by omega), if_pos (by omega), thr_skip (p := 4843) (fun j h1 h2 => undoA_bhi a (b := (a 1).toNat) (by omega) h1 h2) (by omega)]
    exact u250 R a h4 jN 0 (by omega) (by unfold jN; omega)
theorem u70 (R : RI m S F) (a : Nat → Int) (h4 : 1 ≤ a 4 ∧ a 4 ≤ 30) (hB : 0 ≤ a 1 ∧ a 1 ≤ 5) (hL : 0 ≤ a 0 ∧ a 0 ≤ 12) : f_X12_undo_b70 (m : Int) (undX a : Int) 0 (rA m S F (thr (undoA a) a 11)) = some (a 4 - 1, rA m S F (undoA a)) := by
  have hX : 193 ≤ undX a ∧ undX a + 155 ≤ 4843 := by unfold undX; omega
  refine lp (fun (r : Int → Int → Int → fK) b => r (m : Int) (undX a : Int) (b : Int) (rA m S F (thr (undoA a) a (11 + 5 * b)))) (N := (a 0).toNat) ?_ ?_ jN 0 (by omega) (by unfold jN; omega)
  · intro r b hb ih
    show f_X12_undo_b70B r _ _ _ _ = _
    have e0 : thr (undoA a) a (11 + 5 * b) 0 = a 0 := by rw [thr_lo (by omega), undoA_pl a (by omega)]
    have e1 : thr (undoA a) a (11 + 5 * b) (undX a) = a (undX a) := thr_hi (by omega)
    have e2 : thr (undoA a) a (11 + 5 * b + 0 + 1) (undX a) = a (undX a) := thr_hi (by omega)
    have e3 : thr (undoA a) a (11 + 5 * b + 0 + 1) (undX a + 7 + 2 * b) = a (undX a + 7 + 2 * b) := thr_hi (by omega)
    have e4 : thr (undoA a) a (11 + 5 * b) (undX a + 6 + 2 * b) = a (undX a + 6 + 2 * b) := thr_hi (by omega)
    have e5 : thr (undoA a) a (11 + 5 * b) (11 + 5 * b + 4) = a (11 + 5 * b + 4) := thr_hi (by omega)
    have fin : thr (undoA a) a (11 + 5 * b + 1 + 1) = thr (undoA a) a (11 + 5 * (b + 1)) := thr_skip (fun j h1 h2 => by
      obtain ⟨w, hw, rfl⟩ : ∃ w, w < 5 ∧ j = 11 + 5 * b + w := ⟨j - (11 + 5 * b), by omega, by omega⟩
      rw [undoA_l a (by omega) hw, if_pos (by omega), if_neg (by omega), if_neg (by omega)]) (by omega)
    unfold f_X12_undo_b70B f_X12_undo_b115 f_X12_undo_b148
    by_cases h : (b : Int) < a (undX a)
    · have g1 : va_up (thr (undoA a) a (11 + 5 * b)) (11 + 5 * b + 0) (a (undX a + 6 + 2 * b)) = thr (undoA a) a (11 + 5 * b + 0 + 1) := thr_step (fun j h1 h2 => absurd h1 (by omega)) (by rw [undoA_l a (by omega) (by omega), if_pos (by omega), if_pos rfl, if_pos h]) (by omega)
      have g2 : va_up (thr (undoA a) a (11 + 5 * b + 0 + 1)) (11 + 5 * b + 1) (a (undX a + 7 + 2 * b)) = thr (undoA a) a (11 + 5 * b + 1 + 1) := thr_step (fun j h1 h2 => absurd h1 (by omega)) (by rw [undoA_l a (by omega) (by omega), if_pos (by omega), if_neg (by omega), if_pos rfl, if_pos h]) (by omega)
      simp (disch := first | omega | exact R | exact rU R _) only [r_a, r_al, r_cv, s_get, s_put, fcall_some, va_up_self, va_uu, flet_eq, w32_of, toNat_z, show (1 : Int).toNat = 1 from rfl, show (0 : Int).toNat = 0 from rfl, show ((undX a : Int) + 6 + 2 * (b : Int)).toNat = undX a + 6 + 2 * b by omega, show ((undX a : Int) + 7 + 2 * (b : Int)).toNat = undX a + 7 + 2 * b by omega, e0, e1, e2, e3, e4, e5, if_neg (show ¬ a 0 ≤ (b : Int) by omega), if_neg (show ¬ a (undX a) ≤ (b : Int) by omega), g1, g2, zs, fin]
      exact ih
    · have g1 : va_up (thr (undoA a) a (11 + 5 * b)) (11 + 5 * b + 0) (a (11 + 5 * b + 4)) = thr (undoA a) a (11 + 5 * b + 0 + 1) := thr_step (fun j h1 h2 => absurd h1 (by omega)) (by rw [undoA_l a (by omega) (by omega), if_pos (by omega), if_pos rfl, if_neg h]) (by omega)
      have g2 : va_up (thr (undoA a) a (11 + 5 * b + 0 + 1)) (11 + 5 * b + 1) 0 = thr (undoA a) a (11 + 5 * b + 1 + 1) := thr_step (fun j h1 h2 => absurd h1 (by omega)) (by rw [undoA_l a (by omega) (by omega), if_pos (by omega), if_neg (by omega), if_pos rfl, if_neg h]) (by omega)
      simp (disch := first | omega | exact R | exact rU R _) only [r_a, r_al, r_cv, s_get, s_put, fcall_some, va_up_self, va_uu, flet_eq, w32_of, toNat_z, show (1 : Int).toNat = 1 from rfl, show (4 : Int).toNat = 4 from rfl, show (0 : Int).toNat = 0 from rfl, e0, e1, e2, e3, e4, e5, if_neg (show ¬ a 0 ≤ (b : Int) by omega), if_pos (show a (undX a) ≤ (b : Int) by omega), g1, g2, zs, fin]
      exact ih
  · intro r
    show f_X12_undo_b70B r _ _ _ _ = _
    unfold f_X12_undo_b70B
    simp (disch := first | omega | exact R | exact rU R _) only [r_a, r_al, va_up_self, show (0 : Int).toNat = 0 from rfl]
    rw [thr_lo (by omega), undoA_pl a (by omega), if_pos (by omega), thr_skip (p := 71) (fun j h1 h2 => undoA_lhi a (b := (a 0).toNat) (by omega) h1 h2) (by omega)]
    exact u159 R a h4 hB
theorem u38 (R : RI m S F) (a : Nat → Int) (h4 : 1 ≤ a 4 ∧ a 4 ≤ 30) (hB : 0 ≤ a 1 ∧ a 1 ≤ 5) (hL : 0 ≤ a 0 ∧ a 0 ≤ 12) : f_X12_undo_b38 (m : Int) (undX a : Int) 0 (rA m S F (thr (undoA a) a 7)) = some (a 4 - 1, rA m S F (undoA a)) := by
  have hX : 193 ≤ undX a ∧ undX a + 155 ≤ 4843 := by unfold undX; omega
  refine lp (fun (r : Int → Int → Int → fK) b => r (m : Int) (undX a : Int) (b : Int) (rA m S F (thr (undoA a) a (7 + b)))) (N := 4) ?_ ?_ jN 0 (by omega) (by unfold jN; omega)
  · intro r b hb ih
    show f_X12_undo_b38B r _ _ _ _ = _
    unfold f_X12_undo_b38B
    rw [if_neg (by omega)]
    simp (disch := first | omega | exact R | exact rU R _) only [r_a, r_al, r_st, va_up_self, va_uu, flet_eq, w32_of, show ((undX a : Int) + 2 + (b : Int)).toNat = undX a + 2 + b by omega, show (7 + (b : Int)).toNat = 7 + b by omega, zs]
    rw [thr_step (fun j h1 h2 => absurd h1 (by omega)) (by rw [thr_hi (by omega), undoA_7 a (by omega)]) (by omega)]
    exact ih
  · intro r
    show f_X12_undo_b38B r _ _ _ _ = _
    unfold f_X12_undo_b38B
    rw [if_pos (by omega)]
    exact u70 R a h4 hB hL
theorem s_undo (R : RI m S F) (h4 : 0 ≤ F 1 4 ∧ F 1 4 ≤ 30) (hB : 0 ≤ F 1 1 ∧ F 1 1 ≤ 5) (hL : 0 ≤ F 1 0 ∧ F 1 0 ≤ 12) : f_X12_undo (m : Int) (rS m S F) = if F 1 4 = 0 then some (-1, rS m S F) else some (F 1 4 - 1, rA m S F (undoA (F 1))) := by
  unfold f_X12_undo
  simp (disch := first | omega | exact R | exact rU R _) only [r_a, r_al, r_st, va_up_self, show (4 : Int).toNat = 4 from rfl]
  by_cases h : F 1 4 = 0
  · rw [if_pos h, if_pos h]
  · rw [if_neg h, if_neg h, flet_eq, w32_of (z := F 1 4 - 1) (by omega) (by omega), w32_of (z := 155 * (F 1 4 - 1)) (by omega) (by omega), w32_of (by omega) (by omega), show 193 + 155 * (F 1 4 - 1) = ((undX (F 1) : Nat) : Int) by unfold undX; omega]
    have e : va_up (F 1) 4 (F 1 4 - 1) = thr (undoA (F 1)) (F 1) 7 := by
      funext k
      unfold va_up thr
      by_cases h1 : k = 4
      · rw [if_pos h1, if_pos (by omega), h1]
        unfold undoA
        rw [if_pos rfl]
      · rw [if_neg h1]
        by_cases h2 : k < 7
        · rw [if_pos h2, undoA_pl _ (by omega)]
        · rw [if_neg h2]
    rw [e]
    exact u38 R (F 1) (by omega) hB hL
end R5
