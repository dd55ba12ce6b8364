-- the constructors: the reference; the start
section NR
variable {x sl : Nat} {C : Nat → Nat → Int}
def iniA (i : Nat) : Nat → Int := fun k => if k = 9 then 211 else if k = 3 then -1 else if 141 ≤ k ∧ k < 141 + i then besA (k - 141) else 0
def a0A : Nat → Int := va_up (iniA 6) 147 10
theorem tS_r {E : Nat → Nat → Int} : tS x 438 sl E = rS (x + 426) (tS x 438 sl E) (fun j => E (426 + j)) := by
  unfold rS gS tS
  congr 3
  funext p
  show (if x ≤ p ∧ p < x + 438 then E (p - x) else fun _ => 0) = if x + 426 ≤ p ∧ p < x + 426 + 12 then E (426 + (p - (x + 426))) else (if x ≤ p ∧ p < x + 438 then E (p - x) else fun _ => 0)
  by_cases h : x + 426 ≤ p ∧ p < x + 426 + 12
  · rw [if_pos (by omega), if_pos h, show 426 + (p - (x + 426)) = p - x by omega]
  · rw [if_neg h]
theorem tS_kd {E : Nat → Nat → Int} {i : Nat} (hi : i < 438) : (tS x 438 sl E).2.2.1 (x + i) = cty2 i := by
  show (if x ≤ x + i ∧ x + i < x + 438 then cty2 (x + i - x) else (9, 0)) = _
  rw [if_pos ⟨by omega, by omega⟩, Nat.add_sub_cancel_left]
theorem iniA_s (i : Nat) (hi : i < 6) {z : Int} (hz : z = besA i) : va_up (iniA i) (141 + i) z = iniA (i + 1) := by
  funext k
  by_cases h : k = 141 + i
  · subst h
    rw [va_up_self]
    unfold iniA
    rw [if_neg (by omega), if_neg (by omega), if_pos ⟨by omega, by omega⟩, Nat.add_sub_cancel_left]
    exact hz
  · rw [va_up_ne _ _ h]
    unfold iniA
    by_cases q : 141 ≤ k ∧ k < 141 + i
    · rw [if_pos q, if_pos (show 141 ≤ k ∧ k < 141 + (i + 1) by omega)]
    · rw [if_neg q, if_neg (show ¬ (141 ≤ k ∧ k < 141 + (i + 1)) by omega)]
theorem s_ini {m : Nat} {S : jSt} {F : Nat → Nat → Int} (R : RI m S F) (h1 : F 1 = fun _ => 0) (h2 : F 2 = fun _ => 0) : (fgetr (rS m S F) (m : Int) 12 0 fun v37 => fast (rS m S F) v37 9 1 211 fun S38 => fgetr S38 (m : Int) 12 0 fun v39 => fast S38 v39 3 1 (-1) fun S40 => f_X12_init_b132 (m : Int) 0 S40) = some (0, rS m S (va_up (va_up F 1 a0A) 2 a0A)) := by
  have R1 : RI m S (va_up F 1 (va_up (F 1) 9 211)) := rU R _
  have e0 : va_up (va_up (F 1) 9 211) 3 (-1) = iniA 0 := by
    funext k
    unfold iniA
    by_cases k3 : k = 3
    · subst k3; rw [va_up_self]; rfl
    · rw [va_up_ne _ _ k3]
      by_cases k9 : k = 9
      · subst k9; rw [va_up_self]; rfl
      · rw [va_up_ne _ _ k9, if_neg k9, if_neg k3, if_neg (by omega), h1]
  rw [r_a R, r_st R (by omega) (by omega), show (9 : Int).toNat = 9 from rfl, r_a R1, r_st R1 (by omega) (by omega), show (3 : Int).toNat = 3 from rfl, va_up_self, va_uu, e0]
  unfold f_X12_init_b132
  refine lp (fun (r : Int → Int → fK) i => r (m : Int) (i : Int) (rS m S (va_up F 1 (iniA i)))) (N := 6) ?_ ?_ jN 0 (by omega) (by unfold jN; omega)
  · intro r i hi hr
    show f_X12_init_b132B r _ _ _ = _
    have Ri : RI m S (va_up F 1 (iniA i)) := rU R _
    unfold f_X12_init_b132B f_X12_init_b159 f_X12_init_b173
    have go : ∀ z, z = besA i → (fast (rS m S (va_up F 1 (iniA i))) ((m + 1 : Nat) : Int) (w32 (141 + (i : Int))) 1 z fun S48 => flet (w32 ((i : Int) + 1)) fun v49 => r (m : Int) v49 S48) = some (0, rS m S (va_up (va_up F 1 a0A) 2 a0A)) := fun z hz => by
      rw [w32_of (z := 141 + (i : Int)) (by omega) (by omega), r_st Ri (by omega) (by omega), show (141 + (i : Int)).toNat = 141 + i by omega, va_up_self, va_uu, iniA_s i hi hz, flet_eq, w32_of (by omega) (by omega), zs]
      exact hr
    rw [if_neg (by omega), r_a Ri]
    have hc : i = 0 ∨ i = 1 ∨ i = 2 ∨ i = 3 ∨ i = 4 ∨ i = 5 := by omega
    rcases hc with rfl | rfl | rfl | rfl | rfl | rfl
    · rw [if_pos (by decide), if_neg (by decide)]; exact go _ (by decide +kernel)
    · rw [if_neg (by decide), if_neg (by decide)]; exact go _ (by decide +kernel)
    · rw [if_neg (by decide), if_neg (by decide)]; exact go _ (by decide +kernel)
    · rw [if_neg (by decide), if_neg (by decide)]; exact go _ (by decide +kernel)
    · rw [if_neg (by decide), if_neg (by decide)]; exact go _ (by decide +kernel)
    · rw [if_neg (by decide), if_pos (by decide)]; exact go _ (by decide +kernel)
  · intro r
    show f_X12_init_b132B r _ _ _ = _
    have Ri : RI m S (va_up F 1 (iniA 6)) := rU R _
    have Ra : RI m S (va_up F 1 a0A) := rU R _
    unfold f_X12_init_b132B
    rw [if_pos (by omega), r_a Ri, r_st Ri (by omega) (by omega), show (147 : Int).toNat = 147 from rfl, va_up_self, va_uu]
    show (fgetr (rS m S (va_up F 1 a0A)) (m : Int) 12 0 fun v43 => fgetr (rS m S (va_up F 1 a0A)) (m : Int) 12 1 fun v44 => fcall (f_X12_copy v43 v44 (rS m S (va_up F 1 a0A))) fun v45 S46 => some (0, S46)) = _
    rw [r_a Ra, r_im Ra, s_copy Ra (Or.inl ⟨rfl, rfl⟩), fcall_some, va_up_self, va_up_ne _ _ (by decide), h2]
    congr 4
    funext k
    unfold cpN
    by_cases hk : k < 4903
    · rw [if_pos hk]
    · rw [if_neg hk]
      unfold a0A iniA
      rw [va_up_ne _ _ (by omega), if_neg (by omega), if_neg (by omega), if_neg (by omega)]
theorem n_X12 : ∃ sl' E, f_X12_init ((x + 426 : Nat) : Int) (tS x 427 sl (va_up C 426 (dfl 12))) = some (0, rS (x + 426) (tS x 438 sl' E) (va_up (va_up (fun j => E (426 + j)) 1 a0A) 2 a0A)) ∧ sl' ≤ sl + 14000 ∧ (∀ j, j < 426 → E j = C j) ∧ RI (x + 426) (tS x 438 sl' E) (fun j => E (426 + j)) ∧ (E 426 4 = 0 ∧ E 426 5 = -1 ∧ E 426 6 = -1 ∧ E 426 23 = 1) ∧ E 430 = fun _ => 0 := by
  have c0 : cty2 426 = (0, 12) := rfl
  unfold f_X12_init
  rw [n_newa (N := 4903) (z := 4903) (n' := 428) rfl rfl (by omega) rfl (by omega), n_put (by omega) c0, n_newa (N := 4903) (z := 4903) (n' := 429) rfl rfl (by omega) rfl (by omega), n_put (by omega) c0, n_newa (N := 2820) (z := 2820) (n' := 430) rfl rfl (by omega) rfl (by omega), n_put (by omega) c0, n_newa (N := 300) (z := 300) (n' := 431) rfl rfl (by omega) rfl (by omega), n_put (by omega) c0, n_put (by omega) c0, n_put (by omega) c0, n_newa (N := 160) (z := 160) (n' := 432) rfl rfl (by omega) rfl (by omega), n_put (by omega) c0, n_newa (N := 9) (z := 9) (n' := 433) rfl rfl (by omega) rfl (by omega), n_put (by omega) c0, n_newa (N := 330) (z := 330) (n' := 434) rfl rfl (by omega) rfl (by omega), n_put (by omega) c0, n_newa (N := 330) (z := 330) (n' := 435) rfl rfl (by omega) rfl (by omega), n_put (by omega) c0, n_put (by omega) c0, n_newa (N := 141) (z := 141) (n' := 436) rfl rfl (by omega) rfl (by omega), n_put (by omega) c0, n_newa (N := 5) (z := 5) (n' := 437) rfl rfl (by omega) rfl (by omega), n_put (by omega) c0, n_newa (N := 5) (z := 5) (n' := 438) rfl rfl (by omega) rfl (by omega), n_put (by omega) c0]
  generalize hsl : sl + 4903 + 4903 + 2820 + 300 + 160 + 9 + 330 + 330 + 141 + 5 + 5 = sl'
  generalize hE : (va_up (va_up (va_up (va_up (va_up (va_up (va_up (va_up (va_up (va_up (va_up (va_up C 427 _) 428 _) 429 _) 430 _) 431 _) 432 _) 433 _) 434 _) 435 _) 436 _) 437 _) 426 _ : Nat → Nat → Int) = E
  have kd : ∀ i, i < 12 → (tS x 438 sl' E).2.2.1 (x + 426 + i) = cty2 (426 + i) := fun i hi => by rw [Nat.add_assoc]; exact tS_kd (by omega)
  have R : RI (x + 426) (tS x 438 sl' E) (fun j => E (426 + j)) := by
    refine ⟨⟨kd 0 (by omega), kd 1 (by omega), kd 2 (by omega), kd 3 (by omega), kd 4 (by omega), kd 5 (by omega), kd 6 (by omega), kd 7 (by omega), kd 8 (by omega), kd 9 (by omega), kd 10 (by omega), kd 11 (by omega)⟩, ?_⟩
    show RIr (x + 426) (E 426)
    rw [← hE, va_up_self]
    exact ⟨rfl, rfl, rfl, rfl, rfl, rfl, rfl, rfl, rfl, rfl, rfl⟩
  have z1 : E 427 = fun _ => 0 := by rw [← hE, va_up_ne _ _ (by omega), va_up_ne _ _ (by omega), va_up_ne _ _ (by omega), va_up_ne _ _ (by omega), va_up_ne _ _ (by omega), va_up_ne _ _ (by omega), va_up_ne _ _ (by omega), va_up_ne _ _ (by omega), va_up_ne _ _ (by omega), va_up_ne _ _ (by omega), va_up_ne _ _ (by omega), va_up_self]
  have z2 : E 428 = fun _ => 0 := by rw [← hE, va_up_ne _ _ (by omega), va_up_ne _ _ (by omega), va_up_ne _ _ (by omega), va_up_ne _ _ (by omega), va_up_ne _ _ (by omega), va_up_ne _ _ (by omega), va_up_ne _ _ (by omega), va_up_ne _ _ (by omega), va_up_ne _ _ (by omega), va_up_ne _ _ (by omega), va_up_self]
  have z4 : E 430 = fun _ => 0 := by rw [← hE, va_up_ne _ _ (by omega), va_up_ne _ _ (by omega), va_up_ne _ _ (by omega), va_up_ne _ _ (by omega), va_up_ne _ _ (by omega), va_up_ne _ _ (by omega), va_up_ne _ _ (by omega), va_up_ne _ _ (by omega), va_up_self]
  refine ⟨sl', E, ?_, by omega, fun j hj => by rw [← hE, va_up_ne _ _ (by omega), va_up_ne _ _ (by omega), va_up_ne _ _ (by omega), va_up_ne _ _ (by omega), va_up_ne _ _ (by omega), va_up_ne _ _ (by omega), va_up_ne _ _ (by omega), va_up_ne _ _ (by omega), va_up_ne _ _ (by omega), va_up_ne _ _ (by omega), va_up_ne _ _ (by omega), va_up_ne _ _ (by omega)], R, ⟨by rw [← hE, va_up_self]; rfl, by rw [← hE, va_up_self]; rfl, by rw [← hE, va_up_self]; rfl, by rw [← hE, va_up_self]; rfl⟩, z4⟩
  have := s_ini R z1 z2
  rw [← tS_r] at this
  exact this
/-- the start: both objects are made -/
theorem Rel_0 {C : Nat → Nat → Int} {t h s : Nat} (T : TV t C) (H : HV h C) (s1 : C s 1 = 0) (s2 : C s 2 = 0) : Rel a0A C t h s := by
  have W : Wf a0A := by
    refine ⟨by unfold WfN; decide, fun l hl => ?_, fun b hb => ?_⟩
    · exact absurd hl (by show ¬ (l : Int) < 0; omega)
    · exact absurd hb (by show ¬ (b : Int) < 0; omega)
  obtain ⟨⟨t0, t1, t4, t6, t7, t11⟩, t3, t10, t12⟩ := T
  obtain ⟨⟨h5, h6, h7, h8⟩, hz⟩ := H
  have a5 : a0A 5 = 0 := rfl
  have a6 : a0A 6 = 0 := rfl
  refine ⟨⟨t0, t1, t4, t6, fun l hl => absurd hl (by show ¬ (l : Int) < 0; omega)⟩, ⟨⟨t7, t11⟩, fun k hk => absurd hk (by rw [a5]; omega), fun k hk => absurd hk (by rw [a6]; omega), fun f hf => ?_, fun k hk => ?_⟩, ⟨⟨by decide, by decide⟩, fun k hk => absurd hk (by rw [a5]; omega), fun k hk => absurd hk (by rw [a6]; omega), by unfold stOK; decide +kernel, by decide +kernel⟩, ⟨⟨s2, by rw [s1]; omega, by decide, by decide⟩, fun j hj => ?_⟩, fun k hk => absurd hk (by show ¬ (k : Int) < 0; omega)⟩
  · rw [t10]
    have key : ∀ f, f < 6 → besA f = a0A (141 + f) := by decide +kernel
    exact key f hf
  · rw [t12]
    have key : ∀ k, k < 6 → odsA k = a0A (147 + k) := by decide +kernel
    exact key k hk
  · have j0 : j = 0 := by
      have : (j : Int) ≤ 0 := hj
      omega
    subst j0
    show HX a0A C h
    refine ⟨⟨⟨h7, h6, h8, by rw [h5]; omega, by rw [h5]; omega⟩, fun l hl => absurd hl (by show ¬ (l : Int) < 0; omega), fun b hb => absurd hb (by show ¬ (b : Int) < 0; omega), fun l hl _ => by rw [hz 1 (by omega) (by omega)], fun b l _ _ _ => by rw [hz 4 (by omega) (by omega)], fun b l hb => absurd hb (by show ¬ (b : Int) < 0; omega)⟩, ⟨h5, fun i hi => absurd hi (by show ¬ (i : Int) < 0; omega)⟩, W⟩
theorem law_start (B : Nat) (f : Int → Int → jSt → Option (Int × jSt)) : ∃ Z C F, INV B Z C F ∧ Z.1 = B + 438 ∧ Z.2.1 ≤ 40000 ∧ (fnew ((B, 0, (fun _ => (9, 0)), fun _ _ => 0) : jSt) 11 fun v1 S2 => fcall (f_X11_init v1 S2) fun v3 S4 => fnew S4 12 fun v5 S6 => fcall (f_X12_init v5 S6) fun v7 S8 => f v1 v5 S8) = f (B : Int) ((B + 426 : Nat) : Int) (jS B Z C F) := by
  have e0 : ((B, 0, (fun _ => (9, 0)), fun _ _ => 0) : jSt) = tS B 0 0 (fun _ _ => 0) := by
    unfold tS
    congr 3
    · funext p
      rw [if_neg (by omega)]
    · funext p
      rw [if_neg (by omega)]
  obtain ⟨sl1, C, e1, l1, r1, ⟨v1, v2, v3, v4⟩, ⟨w1, w2, w3, w4⟩, ⟨y1, y2⟩, y3, y4⟩ := n_X11 (x := B) (sl := 0 + jnO 11) (C := fun _ _ => 0)
  obtain ⟨sl2, E, e2, l2, f2, R, ⟨z4, z5, z6, z23⟩, z430⟩ := n_X12 (x := B) (sl := sl1 + jnO 12) (C := C)
  have l1 : sl1 ≤ 0 + 11 + 20000 := l1
  have l2 : sl2 ≤ sl1 + 31 + 14000 := l2
  have ES : rS (B + 426) (tS B 438 sl2 E) (va_up (va_up (fun j => E (426 + j)) 1 a0A) 2 a0A) = jS B (tS B 438 sl2 E) C (va_up (va_up (fun j => E (426 + j)) 1 a0A) 2 a0A) := by
    rw [jS_r]
    congr 1
    unfold gS tS
    congr 3
    funext p
    show (if B ≤ p ∧ p < B + 438 then E (p - B) else fun _ => 0) = if B ≤ p ∧ p < B + 426 then C (p - B) else (if B ≤ p ∧ p < B + 438 then E (p - B) else fun _ => 0)
    by_cases h : B ≤ p ∧ p < B + 426
    · rw [if_pos h, if_pos (by omega), f2 _ (by omega)]
    · rw [if_neg h]
  refine ⟨tS B 438 sl2 E, C, va_up (va_up (fun j => E (426 + j)) 1 a0A) 2 a0A, ⟨⟨⟨fun i hi => ?_, fun i k hi hk => r1 i hi k hk⟩, rV (rV R (by omega) _) (by omega) _, Nat.le_refl _⟩, ?_, ?_, ⟨fun _ _ => none, fun _ => (0, fun _ => default), ?_⟩, ⟨?_, ?_, 0, ?_, by omega, fun i hi => by omega⟩, ⟨?_, ?_⟩, ?_⟩, rfl, ?_, ?_⟩
  · rw [tS_kd (by omega), cty_c hi]
  · rw [va_up_ne _ _ (by decide), va_up_self]
    exact Rel_0 v1 v2 v3 v4
  · rw [va_up_self]
    exact Rel_0 w1 w2 w3 w4
  · have g1 : va_up (va_up (fun j => E (426 + j)) 1 a0A) 2 a0A 1 2 = 0 := by rw [va_up_ne _ _ (by decide), va_up_self]; rfl
    have g2 : va_up (va_up (fun j => E (426 + j)) 1 a0A) 2 a0A 2 2 = 0 := by rw [va_up_self]; rfl
    refine ⟨fun t ht => absurd ht (by rw [g1]; omega), by rw [g1, g2]; exact Int.le_refl _, fun t => ⟨fun ht => absurd ht (by rw [g2]; omega), fun _ => ⟨Or.inl ?_, Or.inl ?_⟩⟩⟩
    · rw [show C 4 = fun _ => -1 from v1.2.1]; show (-1 : Int) < 0; decide
    · rw [show C 205 = fun _ => -1 from w1.2.1]; show (-1 : Int) < 0; decide
  · rw [va_up_ne _ _ (by decide), va_up_ne _ _ (by decide), y2]
    exact z430.symm
  · rw [va_up_ne _ _ (by decide), va_up_ne _ _ (by decide), y1]
    exact z4.symm
  · rw [va_up_ne _ _ (by decide), va_up_ne _ _ (by decide)]
    exact z4
  · rw [va_up_ne _ _ (by decide), va_up_ne _ _ (by decide), y3]
    exact z5.symm
  · rw [va_up_ne _ _ (by decide), va_up_ne _ _ (by decide), y4]
    exact z6.symm
  · rw [va_up_ne _ _ (by decide), va_up_ne _ _ (by decide)]
    exact z23
  · show sl2 ≤ 40000
    omega
  · rw [e0, n_new (n' := 1) rfl rfl, show ((B + 0 : Nat) : Int) = (B : Int) from rfl, e1, fcall_some, n_new (n' := 427) rfl rfl, e2, fcall_some, ES]
end NR
