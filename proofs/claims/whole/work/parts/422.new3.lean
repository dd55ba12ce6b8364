-- the constructors: tape, reader, sale, choices, and the whole object
section NM2
variable {x sl : Nat} {C : Nat → Nat → Int}
theorem crf_z {i : Nat} (h : i = 404 ∨ i = 405 ∨ i = 406 ∨ i = 407 ∨ i = 409 ∨ i = 410 ∨ i = 411 ∨ i = 412 ∨ i = 415 ∨ i = 416 ∨ i = 418 ∨ i = 419) (k : Nat) : crf i k = 0 := by
  rcases h with rfl | rfl | rfl | rfl | rfl | rfl | rfl | rfl | rfl | rfl | rfl | rfl <;> rfl
theorem Rf_z {i : Nat} (h : i = 404 ∨ i = 405 ∨ i = 406 ∨ i = 407 ∨ i = 409 ∨ i = 410 ∨ i = 411 ∨ i = 412 ∨ i = 415 ∨ i = 416 ∨ i = 418 ∨ i = 419) : Rf x C i := fun k hk => absurd (crf_z h k) hk
theorem n_X9 : ∃ sl' C', f_X9_init ((x + 403 : Nat) : Int) (tS x 404 sl (va_up C 403 (dfl 9))) = some (0, tS x 408 sl' C') ∧ sl' ≤ sl + 1203 ∧ (∀ j, j < 403 → C' j = C j) ∧ (∀ j, 403 ≤ j → j < 408 → Rf x C' j) ∧ C' 403 0 = 0 ∧ C' 404 = fun _ => 0 := by
  have c0 : cty2 403 = (0, 9) := rfl
  have c1 : cty2 404 = (1, 300) := rfl
  have c2 : cty2 405 = (1, 301) := rfl
  have c3 : cty2 406 = (1, 301) := rfl
  have c4 : cty2 407 = (1, 301) := rfl
  unfold f_X9_init
  rw [n_newa (N := 300) (z := 300) (n' := 405) rfl rfl (by omega) c1 (by omega), n_put (by omega) c0, n_newa (N := 301) (z := 301) (n' := 406) rfl rfl (by omega) c2 (by omega), n_put (by omega) c0, n_newa (N := 301) (z := 301) (n' := 407) rfl rfl (by omega) c3 (by omega), n_put (by omega) c0, n_newa (N := 301) (z := 301) (n' := 408) rfl rfl (by omega) c4 (by omega), n_put (by omega) c0]
  refine ⟨_, _, rfl, by omega, fun j hj => ?_, fun j h1 h2 => ?_, ?_, ?_⟩
  · rw [va_up_ne _ _ (by omega), va_up_ne _ _ (by omega), va_up_ne _ _ (by omega), va_up_ne _ _ (by omega), va_up_ne _ _ (by omega)]
  · by_cases e : j = 403
    · subst e
      intro k hk
      rw [va_up_self]
      by_cases k2 : k = 2
      · subst k2; rfl
      by_cases k3 : k = 3
      · subst k3; rfl
      by_cases k4 : k = 4
      · subst k4; rfl
      by_cases k5 : k = 5
      · subst k5; rfl
      refine absurd ?_ hk
      unfold crf crfR
      simp [k2, k3, k4, k5]
    · exact Rf_z (by omega)
  · rw [va_up_self]; rfl
  · rw [va_up_ne _ _ (by omega), va_up_ne _ _ (by omega), va_up_ne _ _ (by omega), va_up_ne _ _ (by omega), va_up_self]
theorem n_X4 : ∃ sl' C', f_X4_init ((x + 408 : Nat) : Int) ((x + 403 : Nat) : Int) (tS x 409 sl (va_up C 408 (dfl 4))) = some (0, tS x 413 sl' C') ∧ sl' ≤ sl + 404 ∧ (∀ j, j < 408 → C' j = C j) ∧ (∀ j, 408 ≤ j → j < 413 → Rf x C' j) ∧ C' 408 0 = -1 ∧ C' 408 1 = -1 := by
  have c0 : cty2 408 = (0, 4) := rfl
  have c1 : cty2 409 = (1, 96) := rfl
  have c2 : cty2 410 = (1, 300) := rfl
  have c3 : cty2 411 = (1, 4) := rfl
  have c4 : cty2 412 = (1, 4) := rfl
  unfold f_X4_init
  rw [n_put (by omega) c0, n_put (by omega) c0, n_newa (N := 96) (z := 96) (n' := 410) rfl rfl (by omega) c1 (by omega), n_put (by omega) c0, n_newa (N := 300) (z := 300) (n' := 411) rfl rfl (by omega) c2 (by omega), n_put (by omega) c0, n_newa (N := 4) (z := 4) (n' := 412) rfl rfl (by omega) c3 (by omega), n_put (by omega) c0, n_newa (N := 4) (z := 4) (n' := 413) rfl rfl (by omega) c4 (by omega), n_put (by omega) c0, n_put (by omega) c0]
  refine ⟨_, _, rfl, by omega, fun j hj => ?_, fun j h1 h2 => ?_, ?_, ?_⟩
  · rw [va_up_ne _ _ (by omega), va_up_ne _ _ (by omega), va_up_ne _ _ (by omega), va_up_ne _ _ (by omega), va_up_ne _ _ (by omega)]
  · by_cases e : j = 408
    · subst e
      intro k hk
      rw [va_up_self]
      by_cases k2 : k = 2
      · subst k2; rfl
      by_cases k7 : k = 7
      · subst k7; rfl
      by_cases k8 : k = 8
      · subst k8; rfl
      by_cases k9 : k = 9
      · subst k9; rfl
      by_cases k10 : k = 10
      · subst k10; rfl
      refine absurd ?_ hk
      unfold crf crfR
      simp [k2, k7, k8, k9, k10]
    · exact Rf_z (by omega)
  · rw [va_up_self]; rfl
  · rw [va_up_self]; rfl
theorem n_X2 : f_X2_init ((x + 414 : Nat) : Int) ((x + 1 : Nat) : Int) (tS x 415 sl (va_up C 414 (dfl 2))) = some (0, tS x 417 (sl + 64 + 9) (va_up (va_up (va_up C 415 (fun _ => 0)) 416 (fun _ => 0)) 414 (va_up (va_up (va_up (dfl 2) 1 ((x + 415 : Nat) : Int)) 2 ((x + 416 : Nat) : Int)) 0 ((x + 1 : Nat) : Int)))) := by
  have c0 : cty2 414 = (0, 2) := rfl
  have c1 : cty2 415 = (1, 64) := rfl
  have c2 : cty2 416 = (1, 9) := rfl
  unfold f_X2_init
  rw [n_newa (N := 64) (z := 64) (n' := 416) rfl rfl (by omega) c1 (by omega), n_put (by omega) c0, n_newa (N := 9) (z := 9) (n' := 417) rfl rfl (by omega) c2 (by omega), n_put (by omega) c0, n_put (by omega) c0]
theorem n_X5 : ∃ sl' C', f_X5_init ((x + 413 : Nat) : Int) ((x + 1 : Nat) : Int) (tS x 414 sl (va_up C 413 (dfl 5))) = some (0, tS x 417 sl' C') ∧ sl' ≤ sl + 100 ∧ (∀ j, j < 413 → C' j = C j) ∧ (∀ j, 413 ≤ j → j < 417 → Rf x C' j) := by
  have c0 : cty2 413 = (0, 5) := rfl
  have c1 : cty2 414 = (0, 2) := rfl
  unfold f_X5_init
  rw [n_put (by omega) c0, n_put (by omega) c0, n_put (by omega) c0, n_new (n' := 415) rfl c1, n_X2, fcall_some, va_cm _ (show 413 ≠ 415 by omega), va_cm _ (show 413 ≠ 416 by omega), va_cm _ (show 413 ≠ 414 by omega), n_put (by omega) c0]
  refine ⟨_, _, rfl, by simp only [show jnO 2 = 3 from rfl]; omega, fun j hj => ?_, fun j h1 h2 => ?_⟩
  · rw [va_up_ne _ _ (by omega), va_up_ne _ _ (by omega), va_up_ne _ _ (by omega), va_up_ne _ _ (by omega)]
  · by_cases e : j = 413
    · subst e
      intro k hk
      rw [va_up_self]
      by_cases k2 : k = 2
      · subst k2; rfl
      by_cases k3 : k = 3
      · subst k3; rfl
      refine absurd ?_ hk
      unfold crf crfR
      simp [k2, k3]
    by_cases e : j = 414
    · subst e
      intro k hk
      rw [va_up_ne _ _ (by omega), va_up_self]
      by_cases k0 : k = 0
      · subst k0; rfl
      by_cases k1 : k = 1
      · subst k1; rfl
      by_cases k2 : k = 2
      · subst k2; rfl
      refine absurd ?_ hk
      unfold crf crfR
      simp [k0, k1, k2]
    exact Rf_z (by omega)
theorem n_X0 : ∃ sl' C', f_X0_init ((x + 417 : Nat) : Int) ((x + 1 : Nat) : Int) ((x + 413 : Nat) : Int) (tS x 418 sl (va_up C 417 (dfl 0))) = some (0, tS x 420 sl' C') ∧ sl' ≤ sl + 10 ∧ (∀ j, j < 417 → C' j = C j) ∧ (∀ j, 417 ≤ j → j < 420 → Rf x C' j) := by
  have c0 : cty2 417 = (0, 0) := rfl
  have c1 : cty2 418 = (1, 5) := rfl
  have c2 : cty2 419 = (1, 5) := rfl
  unfold f_X0_init
  rw [n_newa (N := 5) (z := 5) (n' := 419) rfl rfl (by omega) c1 (by omega), n_put (by omega) c0, n_newa (N := 5) (z := 5) (n' := 420) rfl rfl (by omega) c2 (by omega), n_put (by omega) c0, n_put (by omega) c0, n_put (by omega) c0]
  refine ⟨_, _, rfl, by omega, fun j hj => ?_, fun j h1 h2 => ?_⟩
  · rw [va_up_ne _ _ (by omega), va_up_ne _ _ (by omega), va_up_ne _ _ (by omega)]
  · by_cases e : j = 417
    · subst e
      intro k hk
      rw [va_up_self]
      by_cases k1 : k = 1
      · subst k1; rfl
      by_cases k6 : k = 6
      · subst k6; rfl
      by_cases k7 : k = 7
      · subst k7; rfl
      by_cases k8 : k = 8
      · subst k8; rfl
      refine absurd ?_ hk
      unfold crf crfR
      simp [k1, k6, k7, k8]
    · exact Rf_z (by omega)
/-- a step of the great constructor: what was laid stays -/
theorem R_join {C' : Nat → Nat → Int} {g : Nat → Int} {a b : Nat} (h : ∀ j, 1 ≤ j → j < a → Rf x C j) (f : ∀ j, j < a → C' j = va_up C 0 g j) (n : ∀ j, a ≤ j → j < b → Rf x C' j) : ∀ j, 1 ≤ j → j < b → Rf x C' j := fun j h1 h2 => by
  by_cases q : j < a
  · exact Rf_fr (h j h1 q) (by rw [f j q, va_up_ne _ _ (by omega)])
  · exact n j (by omega) h2
theorem C_join {C' : Nat → Nat → Int} {g : Nat → Int} {a : Nat} (h0 : 1 ≤ a) (f : ∀ j, j < a → C' j = va_up C 0 g j) : C' 0 = g ∧ C' = va_up C' 0 g ∧ ∀ j, 1 ≤ j → j < a → C' j = C j := by
  have e : C' 0 = g := by rw [f 0 (by omega), va_up_self]
  refine ⟨e, ?_, fun j h1 h2 => by rw [f j h2, va_up_ne _ _ (by omega)]⟩
  rw [← e, va_eta]
end NM2
