-- the constructors: the whole object
section NM3
variable {x sl n : Nat} {C : Nat → Nat → Int} {g : Nat → Int}
theorem n_put0 {k : Nat} {z : Int} {f : jSt → Option (Int × jSt)} (hn : 0 < n) (hg : C 0 = g) : fput (tS x n sl C) (x : Int) 11 k z f = f (tS x n sl (va_up C 0 (va_up g k z))) := by
  have h := n_put (x := x) (sl := sl) (C := C) (g := C 0) (i := 0) (ci := 11) (k := k) (z := z) (f := f) hn rfl
  rw [va_eta, hg] at h
  exact h
theorem n_getr0 {k q : Nat} {f : Int → Option (Int × jSt)} (hn : 0 < n) (hq : C 0 k = ((x + q : Nat) : Int)) : fgetr (tS x n sl C) (x : Int) 11 k f = f ((x + q : Nat) : Int) := n_getr (i := 0) hn rfl hq
theorem TV_fr {C' : Nat → Nat → Int} {t : Nat} (h : TV t C) (f : ∀ j, t ≤ j → j < t + 13 → C' j = C j) : TV t C' := by
  unfold TV
  rw [f t (by omega) (by omega), f (t + 3) (by omega) (by omega), f (t + 10) (by omega) (by omega), f (t + 12) (by omega) (by omega)]
  exact h
theorem HV_fr {C' : Nat → Nat → Int} {o : Nat} (h : HV o C) (f : ∀ j, o ≤ j → j < o + 6 → C' j = C j) : HV o C' := by
  refine ⟨?_, fun j h1 h2 => ?_⟩
  · rw [f o (by omega) (by omega)]; exact h.1
  · rw [f (o + j) (by omega) (by omega)]; exact h.2 j h1 h2
theorem n_X11 : ∃ sl' C', f_X11_init (x : Int) (tS x 1 sl (va_up C 0 (dfl 11))) = some (0, tS x 426 sl' C') ∧ sl' ≤ sl + 20000 ∧ (∀ j, j < 426 → Rf x C' j) ∧ (TV 1 C' ∧ HV 14 C' ∧ C' 20 1 = 0 ∧ C' 20 2 = 0) ∧ (TV 202 C' ∧ HV 215 C' ∧ C' 221 1 = 0 ∧ C' 221 2 = 0) ∧ (C' 403 0 = 0 ∧ C' 404 = fun _ => 0) ∧ C' 408 0 = -1 ∧ C' 408 1 = -1 := by
  have g0 : (va_up C 0 (dfl 11)) 0 = dfl 11 := va_up_self _ _ _
  obtain ⟨s1, C1, e1, l1, f1, r1, v1⟩ := n_T (x := x) (sl := sl + jnO 10) (C := (va_up C 0 (dfl 11))) (t := 1) (Or.inl rfl)
  rw [show jnO 10 = 16 from rfl] at l1
  have h1 : C1 0 = (dfl 11) := by rw [f1 0 (by omega), va_up_self]
  obtain ⟨s2, C2, e2, l2, f2, r2, v2⟩ := n_H (x := x) (sl := s1 + jnO 1) (C := (va_up C1 0 (va_up (dfl 11) 0 ((x + 1 : Nat) : Int)))) (o := 14) iH14
  rw [show jnO 1 = 9 from rfl] at l2
  have h2 : C2 0 = (va_up (dfl 11) 0 ((x + 1 : Nat) : Int)) := by rw [f2 0 (by omega), va_up_self]
  have t2 : ∀ j, 1 ≤ j → j < 14 → C2 j = C1 j := fun j h1 h2 => by rw [f2 j h2, va_up_ne _ _ (by omega)]
  obtain ⟨s3, C3, e3, l3, f3, r3, v3⟩ := n_S (x := x) (sl := s2 + jnO 8) (C := (va_up C2 0 (va_up (va_up (dfl 11) 0 ((x + 1 : Nat) : Int)) 1 ((x + 14 : Nat) : Int)))) (s := 20) (Or.inl rfl)
  rw [show jnO 8 = 3 from rfl] at l3
  have h3 : C3 0 = (va_up (va_up (dfl 11) 0 ((x + 1 : Nat) : Int)) 1 ((x + 14 : Nat) : Int)) := by rw [f3 0 (by omega), va_up_self]
  have t3 : ∀ j, 1 ≤ j → j < 20 → C3 j = C2 j := fun j h1 h2 => by rw [f3 j h2, va_up_ne _ _ (by omega)]
  obtain ⟨s4, C4, e4, l4, f4, r4, v4⟩ := n_T (x := x) (sl := s3 + jnO 10) (C := (va_up C3 0 (va_up (va_up (va_up (dfl 11) 0 ((x + 1 : Nat) : Int)) 1 ((x + 14 : Nat) : Int)) 2 ((x + 20 : Nat) : Int)))) (t := 202) (Or.inr rfl)
  rw [show jnO 10 = 16 from rfl] at l4
  have h4 : C4 0 = (va_up (va_up (va_up (dfl 11) 0 ((x + 1 : Nat) : Int)) 1 ((x + 14 : Nat) : Int)) 2 ((x + 20 : Nat) : Int)) := by rw [f4 0 (by omega), va_up_self]
  have t4 : ∀ j, 1 ≤ j → j < 202 → C4 j = C3 j := fun j h1 h2 => by rw [f4 j h2, va_up_ne _ _ (by omega)]
  obtain ⟨s5, C5, e5, l5, f5, r5, v5⟩ := n_H (x := x) (sl := s4 + jnO 1) (C := (va_up C4 0 (va_up (va_up (va_up (va_up (dfl 11) 0 ((x + 1 : Nat) : Int)) 1 ((x + 14 : Nat) : Int)) 2 ((x + 20 : Nat) : Int)) 3 ((x + 202 : Nat) : Int)))) (o := 215) (Or.inr (Or.inl rfl))
  rw [show jnO 1 = 9 from rfl] at l5
  have h5 : C5 0 = (va_up (va_up (va_up (va_up (dfl 11) 0 ((x + 1 : Nat) : Int)) 1 ((x + 14 : Nat) : Int)) 2 ((x + 20 : Nat) : Int)) 3 ((x + 202 : Nat) : Int)) := by rw [f5 0 (by omega), va_up_self]
  have t5 : ∀ j, 1 ≤ j → j < 215 → C5 j = C4 j := fun j h1 h2 => by rw [f5 j h2, va_up_ne _ _ (by omega)]
  obtain ⟨s6, C6, e6, l6, f6, r6, v6⟩ := n_S (x := x) (sl := s5 + jnO 8) (C := (va_up C5 0 (va_up (va_up (va_up (va_up (va_up (dfl 11) 0 ((x + 1 : Nat) : Int)) 1 ((x + 14 : Nat) : Int)) 2 ((x + 20 : Nat) : Int)) 3 ((x + 202 : Nat) : Int)) 4 ((x + 215 : Nat) : Int)))) (s := 221) (Or.inr rfl)
  rw [show jnO 8 = 3 from rfl] at l6
  have h6 : C6 0 = (va_up (va_up (va_up (va_up (va_up (dfl 11) 0 ((x + 1 : Nat) : Int)) 1 ((x + 14 : Nat) : Int)) 2 ((x + 20 : Nat) : Int)) 3 ((x + 202 : Nat) : Int)) 4 ((x + 215 : Nat) : Int)) := by rw [f6 0 (by omega), va_up_self]
  have t6 : ∀ j, 1 ≤ j → j < 221 → C6 j = C5 j := fun j h1 h2 => by rw [f6 j h2, va_up_ne _ _ (by omega)]
  obtain ⟨s7, C7, e7, l7, f7, r7, v7⟩ := n_X9 (x := x) (sl := s6 + jnO 9) (C := (va_up C6 0 (va_up (va_up (va_up (va_up (va_up (va_up (dfl 11) 0 ((x + 1 : Nat) : Int)) 1 ((x + 14 : Nat) : Int)) 2 ((x + 20 : Nat) : Int)) 3 ((x + 202 : Nat) : Int)) 4 ((x + 215 : Nat) : Int)) 5 ((x + 221 : Nat) : Int))))
  rw [show jnO 9 = 6 from rfl] at l7
  have h7 : C7 0 = (va_up (va_up (va_up (va_up (va_up (va_up (dfl 11) 0 ((x + 1 : Nat) : Int)) 1 ((x + 14 : Nat) : Int)) 2 ((x + 20 : Nat) : Int)) 3 ((x + 202 : Nat) : Int)) 4 ((x + 215 : Nat) : Int)) 5 ((x + 221 : Nat) : Int)) := by rw [f7 0 (by omega), va_up_self]
  have t7 : ∀ j, 1 ≤ j → j < 403 → C7 j = C6 j := fun j h1 h2 => by rw [f7 j h2, va_up_ne _ _ (by omega)]
  obtain ⟨s8, C8, e8, l8, f8, r8, v8⟩ := n_X4 (x := x) (sl := s7 + jnO 4) (C := (va_up C7 0 (va_up (va_up (va_up (va_up (va_up (va_up (va_up (dfl 11) 0 ((x + 1 : Nat) : Int)) 1 ((x + 14 : Nat) : Int)) 2 ((x + 20 : Nat) : Int)) 3 ((x + 202 : Nat) : Int)) 4 ((x + 215 : Nat) : Int)) 5 ((x + 221 : Nat) : Int)) 6 ((x + 403 : Nat) : Int))))
  rw [show jnO 4 = 11 from rfl] at l8
  have h8 : C8 0 = (va_up (va_up (va_up (va_up (va_up (va_up (va_up (dfl 11) 0 ((x + 1 : Nat) : Int)) 1 ((x + 14 : Nat) : Int)) 2 ((x + 20 : Nat) : Int)) 3 ((x + 202 : Nat) : Int)) 4 ((x + 215 : Nat) : Int)) 5 ((x + 221 : Nat) : Int)) 6 ((x + 403 : Nat) : Int)) := by rw [f8 0 (by omega), va_up_self]
  have t8 : ∀ j, 1 ≤ j → j < 408 → C8 j = C7 j := fun j h1 h2 => by rw [f8 j h2, va_up_ne _ _ (by omega)]
  obtain ⟨s9, C9, e9, l9, f9, r9⟩ := n_X5 (x := x) (sl := s8 + jnO 5) (C := (va_up C8 0 (va_up (va_up (va_up (va_up (va_up (va_up (va_up (va_up (dfl 11) 0 ((x + 1 : Nat) : Int)) 1 ((x + 14 : Nat) : Int)) 2 ((x + 20 : Nat) : Int)) 3 ((x + 202 : Nat) : Int)) 4 ((x + 215 : Nat) : Int)) 5 ((x + 221 : Nat) : Int)) 6 ((x + 403 : Nat) : Int)) 7 ((x + 408 : Nat) : Int))))
  rw [show jnO 5 = 4 from rfl] at l9
  have h9 : C9 0 = (va_up (va_up (va_up (va_up (va_up (va_up (va_up (va_up (dfl 11) 0 ((x + 1 : Nat) : Int)) 1 ((x + 14 : Nat) : Int)) 2 ((x + 20 : Nat) : Int)) 3 ((x + 202 : Nat) : Int)) 4 ((x + 215 : Nat) : Int)) 5 ((x + 221 : Nat) : Int)) 6 ((x + 403 : Nat) : Int)) 7 ((x + 408 : Nat) : Int)) := by rw [f9 0 (by omega), va_up_self]
  have t9 : ∀ j, 1 ≤ j → j < 413 → C9 j = C8 j := fun j h1 h2 => by rw [f9 j h2, va_up_ne _ _ (by omega)]
  obtain ⟨s10, C10, e10, l10, f10, r10⟩ := n_X0 (x := x) (sl := s9 + jnO 0) (C := (va_up C9 0 (va_up (va_up (va_up (va_up (va_up (va_up (va_up (va_up (va_up (dfl 11) 0 ((x + 1 : Nat) : Int)) 1 ((x + 14 : Nat) : Int)) 2 ((x + 20 : Nat) : Int)) 3 ((x + 202 : Nat) : Int)) 4 ((x + 215 : Nat) : Int)) 5 ((x + 221 : Nat) : Int)) 6 ((x + 403 : Nat) : Int)) 7 ((x + 408 : Nat) : Int)) 8 ((x + 413 : Nat) : Int))))
  rw [show jnO 0 = 9 from rfl] at l10
  have h10 : C10 0 = (va_up (va_up (va_up (va_up (va_up (va_up (va_up (va_up (va_up (dfl 11) 0 ((x + 1 : Nat) : Int)) 1 ((x + 14 : Nat) : Int)) 2 ((x + 20 : Nat) : Int)) 3 ((x + 202 : Nat) : Int)) 4 ((x + 215 : Nat) : Int)) 5 ((x + 221 : Nat) : Int)) 6 ((x + 403 : Nat) : Int)) 7 ((x + 408 : Nat) : Int)) 8 ((x + 413 : Nat) : Int)) := by rw [f10 0 (by omega), va_up_self]
  have t10 : ∀ j, 1 ≤ j → j < 417 → C10 j = C9 j := fun j h1 h2 => by rw [f10 j h2, va_up_ne _ _ (by omega)]
  obtain ⟨s11, C11, e11, l11, f11, r11, v11⟩ := n_H (x := x) (sl := s10 + jnO 1) (C := (va_up C10 0 (va_up (va_up (va_up (va_up (va_up (va_up (va_up (va_up (va_up (va_up (dfl 11) 0 ((x + 1 : Nat) : Int)) 1 ((x + 14 : Nat) : Int)) 2 ((x + 20 : Nat) : Int)) 3 ((x + 202 : Nat) : Int)) 4 ((x + 215 : Nat) : Int)) 5 ((x + 221 : Nat) : Int)) 6 ((x + 403 : Nat) : Int)) 7 ((x + 408 : Nat) : Int)) 8 ((x + 413 : Nat) : Int)) 9 ((x + 417 : Nat) : Int)))) (o := 420) iH420
  rw [show jnO 1 = 9 from rfl] at l11
  have h11 : C11 0 = (va_up (va_up (va_up (va_up (va_up (va_up (va_up (va_up (va_up (va_up (dfl 11) 0 ((x + 1 : Nat) : Int)) 1 ((x + 14 : Nat) : Int)) 2 ((x + 20 : Nat) : Int)) 3 ((x + 202 : Nat) : Int)) 4 ((x + 215 : Nat) : Int)) 5 ((x + 221 : Nat) : Int)) 6 ((x + 403 : Nat) : Int)) 7 ((x + 408 : Nat) : Int)) 8 ((x + 413 : Nat) : Int)) 9 ((x + 417 : Nat) : Int)) := by rw [f11 0 (by omega), va_up_self]
  have t11 : ∀ j, 1 ≤ j → j < 420 → C11 j = C10 j := fun j h1 h2 => by rw [f11 j h2, va_up_ne _ _ (by omega)]
  unfold f_X11_init
  rw [n_new (n' := 2) rfl rfl, e1, fcall_some, n_put0 (by omega) h1, n_new (n' := 15) rfl rfl, e2, fcall_some, n_put0 (by omega) h2, n_new (n' := 21) rfl rfl, e3, fcall_some, n_put0 (by omega) h3, n_new (n' := 203) rfl rfl, e4, fcall_some, n_put0 (by omega) h4, n_new (n' := 216) rfl rfl, e5, fcall_some, n_put0 (by omega) h5, n_new (n' := 222) rfl rfl, e6, fcall_some, n_put0 (by omega) h6, n_new (n' := 404) rfl rfl, e7, fcall_some, n_put0 (by omega) h7, n_new (n' := 409) rfl rfl, n_getr0 (q := 403) (by omega) (by rw [va_up_ne _ _ (by omega), va_up_self]; rfl), e8, fcall_some, n_put0 (by omega) h8, n_new (n' := 414) rfl rfl, n_getr0 (q := 1) (by omega) (by rw [va_up_ne _ _ (by omega), va_up_self]; rfl), e9, fcall_some, n_put0 (by omega) h9, n_new (n' := 418) rfl rfl, n_getr0 (q := 1) (by omega) (by rw [va_up_ne _ _ (by omega), va_up_self]; rfl), n_getr0 (q := 413) (by omega) (by rw [va_up_ne _ _ (by omega), va_up_self]; rfl), e10, fcall_some, n_put0 (by omega) h10, n_new (n' := 421) rfl rfl, e11, fcall_some, n_put0 (by omega) h11]
  have q11 : ∀ j, 1 ≤ j → j < 426 → va_up C11 0 (va_up (va_up (va_up (va_up (va_up (va_up (va_up (va_up (va_up (va_up (va_up (dfl 11) 0 ((x + 1 : Nat) : Int)) 1 ((x + 14 : Nat) : Int)) 2 ((x + 20 : Nat) : Int)) 3 ((x + 202 : Nat) : Int)) 4 ((x + 215 : Nat) : Int)) 5 ((x + 221 : Nat) : Int)) 6 ((x + 403 : Nat) : Int)) 7 ((x + 408 : Nat) : Int)) 8 ((x + 413 : Nat) : Int)) 9 ((x + 417 : Nat) : Int)) 10 ((x + 420 : Nat) : Int)) j = C11 j := fun j h1 h2 => va_up_ne _ _ (by omega)
  have u11 : ∀ j, 1 ≤ j → j < 426 → va_up C11 0 (va_up (va_up (va_up (va_up (va_up (va_up (va_up (va_up (va_up (va_up (va_up (dfl 11) 0 ((x + 1 : Nat) : Int)) 1 ((x + 14 : Nat) : Int)) 2 ((x + 20 : Nat) : Int)) 3 ((x + 202 : Nat) : Int)) 4 ((x + 215 : Nat) : Int)) 5 ((x + 221 : Nat) : Int)) 6 ((x + 403 : Nat) : Int)) 7 ((x + 408 : Nat) : Int)) 8 ((x + 413 : Nat) : Int)) 9 ((x + 417 : Nat) : Int)) 10 ((x + 420 : Nat) : Int)) j = C11 j := q11
  have u10 : ∀ j, 1 ≤ j → j < 420 → va_up C11 0 (va_up (va_up (va_up (va_up (va_up (va_up (va_up (va_up (va_up (va_up (va_up (dfl 11) 0 ((x + 1 : Nat) : Int)) 1 ((x + 14 : Nat) : Int)) 2 ((x + 20 : Nat) : Int)) 3 ((x + 202 : Nat) : Int)) 4 ((x + 215 : Nat) : Int)) 5 ((x + 221 : Nat) : Int)) 6 ((x + 403 : Nat) : Int)) 7 ((x + 408 : Nat) : Int)) 8 ((x + 413 : Nat) : Int)) 9 ((x + 417 : Nat) : Int)) 10 ((x + 420 : Nat) : Int)) j = C10 j := fun j h1 h2 => (u11 j h1 (by omega)).trans (t11 j h1 h2)
  have u9 : ∀ j, 1 ≤ j → j < 417 → va_up C11 0 (va_up (va_up (va_up (va_up (va_up (va_up (va_up (va_up (va_up (va_up (va_up (dfl 11) 0 ((x + 1 : Nat) : Int)) 1 ((x + 14 : Nat) : Int)) 2 ((x + 20 : Nat) : Int)) 3 ((x + 202 : Nat) : Int)) 4 ((x + 215 : Nat) : Int)) 5 ((x + 221 : Nat) : Int)) 6 ((x + 403 : Nat) : Int)) 7 ((x + 408 : Nat) : Int)) 8 ((x + 413 : Nat) : Int)) 9 ((x + 417 : Nat) : Int)) 10 ((x + 420 : Nat) : Int)) j = C9 j := fun j h1 h2 => (u10 j h1 (by omega)).trans (t10 j h1 h2)
  have u8 : ∀ j, 1 ≤ j → j < 413 → va_up C11 0 (va_up (va_up (va_up (va_up (va_up (va_up (va_up (va_up (va_up (va_up (va_up (dfl 11) 0 ((x + 1 : Nat) : Int)) 1 ((x + 14 : Nat) : Int)) 2 ((x + 20 : Nat) : Int)) 3 ((x + 202 : Nat) : Int)) 4 ((x + 215 : Nat) : Int)) 5 ((x + 221 : Nat) : Int)) 6 ((x + 403 : Nat) : Int)) 7 ((x + 408 : Nat) : Int)) 8 ((x + 413 : Nat) : Int)) 9 ((x + 417 : Nat) : Int)) 10 ((x + 420 : Nat) : Int)) j = C8 j := fun j h1 h2 => (u9 j h1 (by omega)).trans (t9 j h1 h2)
  have u7 : ∀ j, 1 ≤ j → j < 408 → va_up C11 0 (va_up (va_up (va_up (va_up (va_up (va_up (va_up (va_up (va_up (va_up (va_up (dfl 11) 0 ((x + 1 : Nat) : Int)) 1 ((x + 14 : Nat) : Int)) 2 ((x + 20 : Nat) : Int)) 3 ((x + 202 : Nat) : Int)) 4 ((x + 215 : Nat) : Int)) 5 ((x + 221 : Nat) : Int)) 6 ((x + 403 : Nat) : Int)) 7 ((x + 408 : Nat) : Int)) 8 ((x + 413 : Nat) : Int)) 9 ((x + 417 : Nat) : Int)) 10 ((x + 420 : Nat) : Int)) j = C7 j := fun j h1 h2 => (u8 j h1 (by omega)).trans (t8 j h1 h2)
  have u6 : ∀ j, 1 ≤ j → j < 403 → va_up C11 0 (va_up (va_up (va_up (va_up (va_up (va_up (va_up (va_up (va_up (va_up (va_up (dfl 11) 0 ((x + 1 : Nat) : Int)) 1 ((x + 14 : Nat) : Int)) 2 ((x + 20 : Nat) : Int)) 3 ((x + 202 : Nat) : Int)) 4 ((x + 215 : Nat) : Int)) 5 ((x + 221 : Nat) : Int)) 6 ((x + 403 : Nat) : Int)) 7 ((x + 408 : Nat) : Int)) 8 ((x + 413 : Nat) : Int)) 9 ((x + 417 : Nat) : Int)) 10 ((x + 420 : Nat) : Int)) j = C6 j := fun j h1 h2 => (u7 j h1 (by omega)).trans (t7 j h1 h2)
  have u5 : ∀ j, 1 ≤ j → j < 221 → va_up C11 0 (va_up (va_up (va_up (va_up (va_up (va_up (va_up (va_up (va_up (va_up (va_up (dfl 11) 0 ((x + 1 : Nat) : Int)) 1 ((x + 14 : Nat) : Int)) 2 ((x + 20 : Nat) : Int)) 3 ((x + 202 : Nat) : Int)) 4 ((x + 215 : Nat) : Int)) 5 ((x + 221 : Nat) : Int)) 6 ((x + 403 : Nat) : Int)) 7 ((x + 408 : Nat) : Int)) 8 ((x + 413 : Nat) : Int)) 9 ((x + 417 : Nat) : Int)) 10 ((x + 420 : Nat) : Int)) j = C5 j := fun j h1 h2 => (u6 j h1 (by omega)).trans (t6 j h1 h2)
  have u4 : ∀ j, 1 ≤ j → j < 215 → va_up C11 0 (va_up (va_up (va_up (va_up (va_up (va_up (va_up (va_up (va_up (va_up (va_up (dfl 11) 0 ((x + 1 : Nat) : Int)) 1 ((x + 14 : Nat) : Int)) 2 ((x + 20 : Nat) : Int)) 3 ((x + 202 : Nat) : Int)) 4 ((x + 215 : Nat) : Int)) 5 ((x + 221 : Nat) : Int)) 6 ((x + 403 : Nat) : Int)) 7 ((x + 408 : Nat) : Int)) 8 ((x + 413 : Nat) : Int)) 9 ((x + 417 : Nat) : Int)) 10 ((x + 420 : Nat) : Int)) j = C4 j := fun j h1 h2 => (u5 j h1 (by omega)).trans (t5 j h1 h2)
  have u3 : ∀ j, 1 ≤ j → j < 202 → va_up C11 0 (va_up (va_up (va_up (va_up (va_up (va_up (va_up (va_up (va_up (va_up (va_up (dfl 11) 0 ((x + 1 : Nat) : Int)) 1 ((x + 14 : Nat) : Int)) 2 ((x + 20 : Nat) : Int)) 3 ((x + 202 : Nat) : Int)) 4 ((x + 215 : Nat) : Int)) 5 ((x + 221 : Nat) : Int)) 6 ((x + 403 : Nat) : Int)) 7 ((x + 408 : Nat) : Int)) 8 ((x + 413 : Nat) : Int)) 9 ((x + 417 : Nat) : Int)) 10 ((x + 420 : Nat) : Int)) j = C3 j := fun j h1 h2 => (u4 j h1 (by omega)).trans (t4 j h1 h2)
  have u2 : ∀ j, 1 ≤ j → j < 20 → va_up C11 0 (va_up (va_up (va_up (va_up (va_up (va_up (va_up (va_up (va_up (va_up (va_up (dfl 11) 0 ((x + 1 : Nat) : Int)) 1 ((x + 14 : Nat) : Int)) 2 ((x + 20 : Nat) : Int)) 3 ((x + 202 : Nat) : Int)) 4 ((x + 215 : Nat) : Int)) 5 ((x + 221 : Nat) : Int)) 6 ((x + 403 : Nat) : Int)) 7 ((x + 408 : Nat) : Int)) 8 ((x + 413 : Nat) : Int)) 9 ((x + 417 : Nat) : Int)) 10 ((x + 420 : Nat) : Int)) j = C2 j := fun j h1 h2 => (u3 j h1 (by omega)).trans (t3 j h1 h2)
  have u1 : ∀ j, 1 ≤ j → j < 14 → va_up C11 0 (va_up (va_up (va_up (va_up (va_up (va_up (va_up (va_up (va_up (va_up (va_up (dfl 11) 0 ((x + 1 : Nat) : Int)) 1 ((x + 14 : Nat) : Int)) 2 ((x + 20 : Nat) : Int)) 3 ((x + 202 : Nat) : Int)) 4 ((x + 215 : Nat) : Int)) 5 ((x + 221 : Nat) : Int)) 6 ((x + 403 : Nat) : Int)) 7 ((x + 408 : Nat) : Int)) 8 ((x + 413 : Nat) : Int)) 9 ((x + 417 : Nat) : Int)) 10 ((x + 420 : Nat) : Int)) j = C1 j := fun j h1 h2 => (u2 j h1 (by omega)).trans (t2 j h1 h2)
  refine ⟨s11, _, rfl, by omega, fun j hj => ?_, ⟨TV_fr v1 (fun j h1 h2 => u1 j (by omega) (by omega)), HV_fr v2 (fun j h1 h2 => u2 j (by omega) (by omega)), by rw [u3 20 (by omega) (by omega)]; exact v3.1, by rw [u3 20 (by omega) (by omega)]; exact v3.2⟩, ⟨TV_fr v4 (fun j h1 h2 => u4 j (by omega) (by omega)), HV_fr v5 (fun j h1 h2 => u5 j (by omega) (by omega)), by rw [u6 221 (by omega) (by omega)]; exact v6.1, by rw [u6 221 (by omega) (by omega)]; exact v6.2⟩, ⟨by rw [u7 403 (by omega) (by omega)]; exact v7.1, by rw [u7 404 (by omega) (by omega)]; exact v7.2⟩, by rw [u8 408 (by omega) (by omega)]; exact v8.1, by rw [u8 408 (by omega) (by omega)]; exact v8.2⟩
  by_cases j0 : j = 0
  · subst j0
    intro k hk
    rw [va_up_self]
    by_cases k10 : k = 10
    · subst k10; rfl
    by_cases k9 : k = 9
    · subst k9; rfl
    by_cases k8 : k = 8
    · subst k8; rfl
    by_cases k7 : k = 7
    · subst k7; rfl
    by_cases k6 : k = 6
    · subst k6; rfl
    by_cases k5 : k = 5
    · subst k5; rfl
    by_cases k4 : k = 4
    · subst k4; rfl
    by_cases k3 : k = 3
    · subst k3; rfl
    by_cases k2 : k = 2
    · subst k2; rfl
    by_cases k1 : k = 1
    · subst k1; rfl
    by_cases k0 : k = 0
    · subst k0; rfl
    refine absurd ?_ hk
    unfold crf crf0
    rw [if_pos rfl, if_neg k0, if_neg k1, if_neg k2, if_neg k3, if_neg k4, if_neg k5, if_neg k6, if_neg k7, if_neg k8, if_neg k9, if_neg k10]
  by_cases q : j < 14
  · exact Rf_fr (r1 j (by omega) q) (u1 j (by omega) (by omega))
  by_cases q : j < 20
  · exact Rf_fr (r2 j (by omega) q) (u2 j (by omega) (by omega))
  by_cases q : j < 202
  · exact Rf_fr (r3 j (by omega) q) (u3 j (by omega) (by omega))
  by_cases q : j < 215
  · exact Rf_fr (r4 j (by omega) q) (u4 j (by omega) (by omega))
  by_cases q : j < 221
  · exact Rf_fr (r5 j (by omega) q) (u5 j (by omega) (by omega))
  by_cases q : j < 403
  · exact Rf_fr (r6 j (by omega) q) (u6 j (by omega) (by omega))
  by_cases q : j < 408
  · exact Rf_fr (r7 j (by omega) q) (u7 j (by omega) (by omega))
  by_cases q : j < 413
  · exact Rf_fr (r8 j (by omega) q) (u8 j (by omega) (by omega))
  by_cases q : j < 417
  · exact Rf_fr (r9 j (by omega) q) (u9 j (by omega) (by omega))
  by_cases q : j < 420
  · exact Rf_fr (r10 j (by omega) q) (u10 j (by omega) (by omega))
  exact Rf_fr (r11 j (by omega) hj) (u11 j (by omega) hj)
end NM3
