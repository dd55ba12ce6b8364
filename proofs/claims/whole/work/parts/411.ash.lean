-- ash and burnt
section AS
variable {x : Nat}
def brnP (a : Nat → Int) (l : Nat) : Bool := decide (a (12 + 5 * l) = 0 ∨ a (12 + 5 * l) = 2)
theorem aC_self (C : Nat → Nat → Int) : C = aC C (C 417 2) (C 417 3) (C 417 4) := by
  funext i
  by_cases h : i = 417
  · subst h
    unfold aC
    rw [va_up_self]
    funext k
    by_cases h4 : k = 4
    · subst h4; rw [va_up_self]
    · by_cases h3 : k = 3
      · subst h3; rw [va_up_ne _ _ (by decide), va_up_self]
      · by_cases h2 : k = 2
        · subst h2; rw [va_up_ne _ _ (by decide), va_up_ne _ _ (by decide), va_up_self]
        · rw [va_up_ne _ _ h4, va_up_ne _ _ h3, va_up_ne _ _ h2]
  · rw [aC_o _ _ _ _ h]
def c5 (C : Nat → Nat → Int) (u : Int) : Nat → Nat → Int := va_up C 417 (va_up (C 417) 5 u)
theorem aC_5 (C : Nat → Nat → Int) (c A O z : Int) : va_up (aC C c A O) 417 (va_up (aC C c A O 417) 5 z) = aC (c5 C z) c A O := by
  unfold aC c5
  rw [va_up_self, va_uu, va_up_self, va_uu]
  congr 1
  funext k
  by_cases h5 : k = 5
  · subst h5; rw [va_up_self, va_up_ne _ _ (by decide), va_up_ne _ _ (by decide), va_up_ne _ _ (by decide), va_up_self]
  · by_cases h4 : k = 4
    · subst h4; rw [va_up_ne _ _ (by decide), va_up_self, va_up_self]
    · by_cases h3 : k = 3
      · subst h3; rw [va_up_ne _ _ (by decide), va_up_ne _ _ (by decide), va_up_self, va_up_ne _ _ (by decide), va_up_self]
      · by_cases h2 : k = 2
        · subst h2; rw [va_up_ne _ _ (by decide), va_up_ne _ _ (by decide), va_up_ne _ _ (by decide), va_up_self, va_up_ne _ _ (by decide), va_up_ne _ _ (by decide), va_up_self]
        · rw [va_up_ne _ _ h5, va_up_ne _ _ h4, va_up_ne _ _ h3, va_up_ne _ _ h2, va_up_ne _ _ h4, va_up_ne _ _ h3, va_up_ne _ _ h2, va_up_ne _ _ h5]
theorem c5_I {S : jSt} {C : Nat → Nat → Int} (I : CI x S C) (u : Int) : CI x S (c5 C u) := CI_up I rfl
theorem c5_5 (C : Nat → Nat → Int) (u v : Int) : c5 (c5 C u) v = c5 C v := by
  unfold c5
  rw [va_up_self, va_uu, va_uu]
theorem c5_v (C : Nat → Nat → Int) (u : Int) : c5 C u 417 5 = u := by
  unfold c5
  rw [va_up_self, va_up_self]
theorem c5_o (C : Nat → Nat → Int) (u : Int) {i : Nat} (h : i ≠ 417) : c5 C u i = C i := va_up_ne _ _ h
theorem c_findAshes {S : jSt} {C : Nat → Nat → Int} {a : Nat → Int} (I : CI x S C) (T : Td a C 1) (H : Hs a C 14) (W : Wf a) {N : Nat} (hN : a 0 = (N : Int)) {W0 M0 : Int} (hW0 : 0 ≤ W0 ∧ W0 ≤ 108) (hM0 : 0 ≤ M0 ∧ M0 ≤ 12) : ∃ A O : Nat, f_X0_findAshes ((x + 417 : Nat) : Int) ((x + 14 : Nat) : Int) W0 M0 (cS x S C) = some (0, cS x S (aC (c5 C ((mk (brnP a) N : Nat) : Int)) (csm (PW (fun l => a (14 + 5 * l)) (mk (brnP a) N) N W0 M0) (2 ^ N)) A O)) ∧ A < 4096 ∧ O < 4096 ∧ (∀ i, A.testBit i = true ↔ (i < N ∧ ∀ s, s < 2 ^ N → PW (fun l => a (14 + 5 * l)) (mk (brnP a) N) N W0 M0 s → s.testBit i = true)) ∧ (∀ i, O.testBit i = true ↔ ∃ s, s < 2 ^ N ∧ PW (fun l => a (14 + 5 * l)) (mk (brnP a) N) N W0 M0 s ∧ s.testBit i = true) := by
  have w0 := W.1.1
  have t0 := T.1
  have N12 : 2 ^ N ≤ 4096 := Nat.pow_le_pow_right (n := 2) (by decide) (show N ≤ 12 by omega)
  have N1 : 0 < 2 ^ N := Nat.pow_pos (by decide)
  have ul : mk (brnP a) N < 2 ^ N := mk_lt _ N
  have I5 : ∀ u, CI x S (c5 C u) := fun u => CI_up I rfl
  have T5 : ∀ u, Td a (c5 C u) 1 := fun u => Td_fr T (fun i h1 h2 => c5_o _ _ (by omega))
  have qe : ∀ s, QW (fun l => a (14 + 5 * l)) (mk (brnP a) N) N W0 M0 0 0 s ↔ PW (fun l => a (14 + 5 * l)) (mk (brnP a) N) N W0 M0 s := fun s => by
    unfold QW
    rw [Nat.pow_zero, Nat.mod_one]
    exact ⟨fun z => z.2, fun z => ⟨rfl, z⟩⟩
  have ce : csm (QW (fun l => a (14 + 5 * l)) (mk (brnP a) N) N W0 M0 0 0) (2 ^ N) = csm (PW (fun l => a (14 + 5 * l)) (mk (brnP a) N) N W0 M0) (2 ^ N) := csm_e _ (fun s _ => qe s)
  have cb := csm_b (PW (fun l => a (14 + 5 * l)) (mk (brnP a) N) N W0 M0) (2 ^ N)
  obtain ⟨A, O, g1, g2, g3, g4, g5⟩ := c_tryAshes (I5 ((mk (brnP a) N : Nat) : Int)) (T5 _) W hN (c5_v _ _) ul hW0 hM0 N 100 0 0 0 (2 ^ N - 1) 0 (by omega) (by omega) (by decide) (fun i hi => (nz_t hi).elim) (by omega) (by omega) (Int.le_refl _) (by rw [ce]; omega)
  rw [ce, Int.zero_add, show ssm (fun l => a (14 + 5 * l)) 0 0 = 0 from rfl, show ssm (fun _ => 1) 0 0 = 0 from rfl, Int.sub_zero, Int.sub_zero] at g1
  refine ⟨A, O, ?_, g2, g3, fun i => ?_, fun i => ?_⟩
  · have st : f_X0_findAshes ((x + 417 : Nat) : Int) ((x + 14 : Nat) : Int) W0 M0 (cS x S C) = f_X0_findAshes_b33 ((x + 417 : Nat) : Int) ((x + 14 : Nat) : Int) W0 M0 0 (cS x S (aC (c5 C 0) 0 ((2 ^ N - 1 : Nat) : Int) 0)) := by
      unfold f_X0_findAshes
      have e1 : cS x S C = cS x S (aC C (C 417 2) (C 417 3) (C 417 4)) := by rw [← aC_self]
      rw [e1, cp_417 (aC_I I _ _ _), aC_2, cr417_7 (aC_I I _ _ _), cg_1 (aC_I I _ _ _), aC_o _ _ _ _ (by decide), t0, hN, ishl_n (by omega), w32_of (by omega) (by omega), cp_417 (aC_I I _ _ _), aC_3, cp_417 (aC_I I _ _ _), aC_4, cp_417 (aC_I I _ _ _), aC_5, show ((2 ^ N : Nat) : Int) - 1 = ((2 ^ N - 1 : Nat) : Int) by omega]
    rw [st]
    unfold f_X0_findAshes_b33
    have key := lp (z := fun _ _ _ _ _ _ => none) (s := fun r => f_X0_findAshes_b33B r) (fun (r : Int → Int → Int → Int → Int → fK) i => r ((x + 417 : Nat) : Int) ((x + 14 : Nat) : Int) W0 M0 (i : Int) (cS x S (aC (c5 C ((mk (brnP a) i : Nat) : Int)) 0 ((2 ^ N - 1 : Nat) : Int) 0))) (N := N) (res := some (0, cS x S (aC (c5 C ((mk (brnP a) N : Nat) : Int)) (csm (PW (fun l => a (14 + 5 * l)) (mk (brnP a) N) N W0 M0) (2 ^ N)) A O))) ?_ ?_ jN 0 (by omega) (by unfold jN; omega)
    · exact key
    · intro r i hi hr
      show f_X0_findAshes_b33B r _ _ _ _ _ _ = _
      unfold f_X0_findAshes_b33B f_X0_findAshes_b66 f_X0_findAshes_b79
      have Ii := aC_I (I5 ((mk (brnP a) i : Nat) : Int)) 0 ((2 ^ N - 1 : Nat) : Int) 0
      have ei : C (14 + 1) i = a (12 + 5 * i) := (H.2.1 i (by omega)).1
      have m31 := mk_31 (brnP a) (n := i) (by omega)
      have up : ∀ z, va_up (aC (c5 C ((mk (brnP a) i : Nat) : Int)) 0 ((2 ^ N - 1 : Nat) : Int) 0) 417 (va_up (aC (c5 C ((mk (brnP a) i : Nat) : Int)) 0 ((2 ^ N - 1 : Nat) : Int) 0 417) 5 z) = aC (c5 C z) 0 ((2 ^ N - 1 : Nat) : Int) 0 := fun z => by rw [aC_5, c5_5]
      rw [cr417_7 Ii, cg_1 Ii, aC_o _ _ _ _ (by decide), c5_o _ _ (by decide), t0, hN, if_neg (by omega), crh_0 Ii iH14, alh_1 Ii iH14 (by omega) (by omega), toNat_z, aC_o _ _ _ _ (by decide), c5_o _ _ (by decide), ei, crh_0 Ii iH14, alh_1 Ii iH14 (by omega) (by omega), toNat_z, aC_o _ _ _ _ (by decide), c5_o _ _ (by decide), ei]
      simp only [flet_eq]
      rw [w32_of (z := (i : Int) + 1) (by omega) (by omega), zs, cg_417 Ii, (aC_k _ _ _ _).2.2.2, c5_v, ishl_n (by omega), cp_417 Ii, up]
      by_cases h : a (12 + 5 * i) = 0 ∨ a (12 + 5 * i) = 2
      · rw [mk_step (brnP a) (by omega) _ (by rw [if_pos (show brnP a i = true from decide_eq_true h)])]
        by_cases h1 : a (12 + 5 * i) = 0
        · rw [if_pos h1]
          exact hr
        · rw [if_neg h1, if_pos (h.elim (fun z => absurd z h1) id)]
          exact hr
      · rw [if_neg (fun z => h (Or.inl z)), if_neg (fun z => h (Or.inr z))]
        have e : mk (brnP a) (i + 1) = mk (brnP a) i := by
          show mk (brnP a) i ||| (if brnP a i then 2 ^ i else 0) = _
          rw [if_neg (show ¬ brnP a i = true from fun z => h (of_decide_eq_true z)), Nat.or_zero]
        rw [e] at hr
        exact hr
    · intro r
      show f_X0_findAshes_b33B r _ _ _ _ _ _ = _
      unfold f_X0_findAshes_b33B
      have Ii := aC_I (I5 ((mk (brnP a) N : Nat) : Int)) 0 ((2 ^ N - 1 : Nat) : Int) 0
      rw [cr417_7 Ii, cg_1 Ii, aC_o _ _ _ _ (by decide), c5_o _ _ (by decide), t0, hN, if_pos (by omega), c_v Ii (i := 417) (by decide) rfl]
      unfold f_X0_tryAshes
      have g1' : grp_X0_tryAshes 100 ((x + 417 : Nat) : Int) 0 W0 M0 0 (cS x S (aC (c5 C ((mk (brnP a) N : Nat) : Int)) 0 ((2 ^ N - 1 : Nat) : Int) 0)) = some (0, cS x S (aC (c5 C ((mk (brnP a) N : Nat) : Int)) (csm (PW (fun l => a (14 + 5 * l)) (mk (brnP a) N) N W0 M0) (2 ^ N)) A O)) := g1
      rw [g1', fcall_some]
  · rw [g4, Nat.testBit_two_pow_sub_one, decide_eq_true_eq]
    exact and_congr Iff.rfl ⟨fun z s hs hq => z s hs ((qe s).mpr hq), fun z s hs hq => z s hs ((qe s).mp hq)⟩
  · rw [g5, Nat.zero_testBit]
    constructor
    · rintro (z | ⟨s, hs, hq, z⟩)
      · exact Bool.noConfusion z
      · exact ⟨s, hs, (qe s).mp hq, z⟩
    · rintro ⟨s, hs, hq, z⟩
      exact Or.inr ⟨s, hs, (qe s).mpr hq, z⟩
end AS
section AR
variable {m : Nat} {S : jSt} {F : Nat → Nat → Int}
def aF (F : Nat → Nat → Int) (c A B : Int) : Nat → Nat → Int := va_up F 0 (va_up (va_up (va_up (F 0) 28 c) 29 A) 30 B)
theorem aF_o (F : Nat → Nat → Int) (c A B : Int) {i : Nat} (h : i ≠ 0) : aF F c A B i = F i := va_up_ne _ _ h
theorem aF_k (F : Nat → Nat → Int) (c A B : Int) : aF F c A B 0 28 = c ∧ aF F c A B 0 29 = A ∧ aF F c A B 0 30 = B := by
  unfold aF
  rw [va_up_self]
  refine ⟨?_, ?_, va_up_self _ _ _⟩
  · rw [va_up_ne _ _ (by decide), va_up_ne _ _ (by decide), va_up_self]
  · rw [va_up_ne _ _ (by decide), va_up_self]
theorem aF_n (F : Nat → Nat → Int) (c A B : Int) {k : Nat} (h : k < 28) : aF F c A B 0 k = F 0 k := by
  unfold aF
  rw [va_up_self, va_up_ne _ _ (by omega), va_up_ne _ _ (by omega), va_up_ne _ _ (by omega)]
theorem aF_28 (F : Nat → Nat → Int) (c A B z : Int) : va_up (aF F c A B) 0 (va_up (aF F c A B 0) 28 z) = aF F z A B := by
  unfold aF
  rw [va_up_self, va_uu]
  congr 1
  funext k
  by_cases h4 : k = 30
  · subst h4; rw [va_up_ne _ _ (by decide), va_up_self, va_up_self]
  · by_cases h3 : k = 29
    · subst h3; rw [va_up_ne _ _ (by decide), va_up_ne _ _ (by decide), va_up_self, va_up_ne _ _ (by decide), va_up_self]
    · by_cases h2 : k = 28
      · subst h2; rw [va_up_self, va_up_ne _ _ (by decide), va_up_ne _ _ (by decide), va_up_self]
      · rw [va_up_ne _ _ h2, va_up_ne _ _ h4, va_up_ne _ _ h3, va_up_ne _ _ h2, va_up_ne _ _ h4, va_up_ne _ _ h3, va_up_ne _ _ h2]
theorem aF_29 (F : Nat → Nat → Int) (c A B z : Int) : va_up (aF F c A B) 0 (va_up (aF F c A B 0) 29 z) = aF F c z B := by
  unfold aF
  rw [va_up_self, va_uu]
  congr 1
  funext k
  by_cases h4 : k = 30
  · subst h4; rw [va_up_ne _ _ (by decide), va_up_self, va_up_self]
  · by_cases h3 : k = 29
    · subst h3; rw [va_up_self, va_up_ne _ _ (by decide), va_up_self]
    · rw [va_up_ne _ _ h3, va_up_ne _ _ h4, va_up_ne _ _ h3, va_up_ne _ _ h4, va_up_ne _ _ h3]
theorem aF_30 (F : Nat → Nat → Int) (c A B z : Int) : va_up (aF F c A B) 0 (va_up (aF F c A B 0) 30 z) = aF F c A z := by
  unfold aF
  rw [va_up_self, va_uu, va_uu]
theorem aF_self (F : Nat → Nat → Int) : F = aF F (F 0 28) (F 0 29) (F 0 30) := by
  funext i
  by_cases h : i = 0
  · subst h
    unfold aF
    rw [va_up_self]
    funext k
    by_cases h4 : k = 30
    · subst h4; rw [va_up_self]
    · by_cases h3 : k = 29
      · subst h3; rw [va_up_ne _ _ (by decide), va_up_self]
      · by_cases h2 : k = 28
        · subst h2; rw [va_up_ne _ _ (by decide), va_up_ne _ _ (by decide), va_up_self]
        · rw [va_up_ne _ _ h4, va_up_ne _ _ h3, va_up_ne _ _ h2]
  · rw [aF_o _ _ _ _ h]
theorem aF_R (R : RI m S F) (c A B : Int) : RI m S (aF F c A B) := by
  have h : ∀ F, RI m S F → ∀ k z, k ∉ [0, 1, 2, 3, 15, 20, 21, 22, 25, 26, 27] → RI m S (va_up F 0 (va_up (F 0) k z)) := fun F R k z hk => RI_up0 R hk
  have e : aF F c A B = va_up (va_up (va_up F 0 (va_up (F 0) 28 c)) 0 (va_up (va_up F 0 (va_up (F 0) 28 c) 0) 29 A)) 0 (va_up (va_up (va_up F 0 (va_up (F 0) 28 c)) 0 (va_up (va_up F 0 (va_up (F 0) 28 c) 0) 29 A) 0) 30 B) := by
    unfold aF
    rw [va_up_self, va_up_self, va_uu, va_uu]
  rw [e]
  exact h _ (h _ (h _ R 28 c (by decide)) 29 A (by decide)) 30 B (by decide)
theorem aF_K (R : RI m S F) (c A B : Int) : RK m S F (aF F c A B) (F 1) := ⟨aF_R R c A B, aF_o _ _ _ _ (by decide), fun i h1 h2 => aF_o _ _ _ _ (by omega), fun k hk => aF_n _ _ _ _ (by omega)⟩
theorem s_weightOf (R : RI m S F) (W : Wf (F 1)) {N : Nat} (hN : F 1 0 = (N : Int)) {s : Nat} (hs : s < 2147483648) : f_X12_weightOf (m : Int) (s : Int) (rS m S F) = some (ssm (fun l => F 1 (14 + 5 * l)) s N, rS m S F) := by
  have w0 := W.1.1
  unfold f_X12_weightOf f_X12_weightOf_b4
  refine lp (fun (r : Int → Int → Int → Int → fK) i => r (m : Int) (s : Int) (ssm (fun l => F 1 (14 + 5 * l)) s i) (i : Int) (rS m S F)) (N := N) ?_ ?_ jN 0 (by omega) (by unfold jN; omega)
  · intro r i hi hr
    show f_X12_weightOf_b4B r _ _ _ _ _ = _
    unfold f_X12_weightOf_b4B f_X12_weightOf_b33
    have wl := (W.2.1 i (by omega)).2.2.2
    have sb := ssm_b (w := fun l => F 1 (14 + 5 * l)) (c := 9) s i (by omega) (fun j hj => by have := (W.2.1 j (by omega)).2.2.2; exact ⟨by omega, this.2⟩)
    rw [r_a R, r_al R (by omega) (by omega), show (0 : Int).toNat = 0 from rfl, hN, if_neg (by omega), s_has hs (by omega), fcall_some, if_b01]
    simp only [flet_eq]
    rw [w32_of (z := (i : Int) + 1) (by omega) (by omega), zs]
    rw [ssm_s] at hr
    by_cases h : s.testBit i = true
    · rw [if_pos h, r_cv R, s_get R (by omega) (by omega) (by omega) (by omega), fcall_some, show 11 + 5 * ((i : Nat) : Int).toNat + (3 : Int).toNat = 14 + 5 * i by omega]
      rw [if_pos h] at hr
      rw [w32_of (by omega) (by omega)]
      exact hr
    · rw [if_neg h, w32_of (by omega) (by omega)]
      rw [if_neg h] at hr
      exact hr
  · intro r
    show f_X12_weightOf_b4B r _ _ _ _ _ = _
    unfold f_X12_weightOf_b4B
    rw [r_a R, r_al R (by omega) (by omega), show (0 : Int).toNat = 0 from rfl, hN, if_pos (by omega)]
theorem s_could (R : RI m S F) (W : Wf (F 1)) {N : Nat} (hN : F 1 0 = (N : Int)) : f_X12_couldBurn (m : Int) (rS m S F) = some (((mk (brnP (F 1)) N : Nat) : Int), rS m S F) := by
  have w0 := W.1.1
  unfold f_X12_couldBurn f_X12_couldBurn_b4
  refine lp (fun (r : Int → Int → Int → fK) i => r (m : Int) ((mk (brnP (F 1)) i : Nat) : Int) (i : Int) (rS m S F)) (N := N) ?_ ?_ jN 0 (by omega) (by unfold jN; omega)
  · intro r i hi hr
    show f_X12_couldBurn_b4B r _ _ _ _ = _
    unfold f_X12_couldBurn_b4B f_X12_couldBurn_b34 f_X12_couldBurn_b41
    have gg : f_X12_get (m : Int) (i : Int) 1 (rS m S F) = some (F 1 (12 + 5 * i), rS m S F) := by
      rw [s_get R (by omega) (by omega) (by omega) (by omega), show 11 + 5 * ((i : Nat) : Int).toNat + (1 : Int).toNat = 12 + 5 * i by omega]
    rw [r_a R, r_al R (by omega) (by omega), show (0 : Int).toNat = 0 from rfl, hN, if_neg (by omega), r_cv R, s_get R (by omega) (by omega) (by omega) (by omega), fcall_some, show 11 + 5 * ((i : Nat) : Int).toNat + (1 : Int).toNat = 12 + 5 * i by omega]
    simp only [r_cv R, gg, fcall_some, flet_eq]
    rw [w32_of (z := (i : Int) + 1) (by omega) (by omega), zs, ishl_n (by omega)]
    by_cases h : F 1 (12 + 5 * i) = 0 ∨ F 1 (12 + 5 * i) = 2
    · rw [mk_step (brnP (F 1)) (by omega) _ (by rw [if_pos (show brnP (F 1) i = true from decide_eq_true h)])]
      by_cases h1 : F 1 (12 + 5 * i) = 0
      · rw [if_pos h1]
        exact hr
      · rw [if_neg h1, if_pos (h.elim (fun z => absurd z h1) id)]
        exact hr
    · rw [if_neg (fun z => h (Or.inl z)), if_neg (fun z => h (Or.inr z)), mk_step (brnP (F 1)) (by omega) 0 (by rw [if_neg (show ¬ brnP (F 1) i = true from fun z => h (of_decide_eq_true z))])]
      exact hr
  · intro r
    show f_X12_couldBurn_b4B r _ _ _ _ = _
    unfold f_X12_couldBurn_b4B
    rw [r_a R, r_al R (by omega) (by omega), show (0 : Int).toNat = 0 from rfl, hN, if_pos (by omega)]
theorem s_layAsh (R : RI m S F) (W : Wf (F 1)) {N : Nat} (hN : F 1 0 = (N : Int)) (W0 M0 : Int) : ∃ A B : Nat, f_X12_layAsh (m : Int) W0 M0 (rS m S F) = some (0, rS m S (aF F (csm (PW (fun l => F 1 (14 + 5 * l)) (mk (brnP (F 1)) N) N W0 M0) (2 ^ N)) A B)) ∧ (∀ i, A.testBit i = true ↔ ((mk (brnP (F 1)) N).testBit i = true ∧ ∀ s, s < 2 ^ N → PW (fun l => F 1 (14 + 5 * l)) (mk (brnP (F 1)) N) N W0 M0 s → s.testBit i = true)) ∧ (∀ i, B.testBit i = true ↔ ((mk (brnP (F 1)) N).testBit i = true ∧ ∀ s, s < 2 ^ N → PW (fun l => F 1 (14 + 5 * l)) (mk (brnP (F 1)) N) N W0 M0 s → ¬ s.testBit i = true)) := by
  have w0 := W.1.1
  have N12 : 2 ^ N ≤ 4096 := Nat.pow_le_pow_right (n := 2) (by decide) (show N ≤ 12 by omega)
  obtain ⟨u, hu⟩ : ∃ u, u = mk (brnP (F 1)) N := ⟨_, rfl⟩
  have ul : u < 2 ^ N := by rw [hu]; exact mk_lt _ N
  obtain ⟨P, hP⟩ : ∃ P : Nat → Prop, P = PW (fun l => F 1 (14 + 5 * l)) u N W0 M0 := ⟨_, rfl⟩
  have Pe : ∀ s, s < 2 ^ N → (P s ↔ (s ^^^ (s &&& u) = 0 ∧ ((pcf 31 s : Nat) : Int) = M0 ∧ ssm (fun l => F 1 (14 + 5 * l)) s N = W0)) := fun s hs => by
    rw [hP]
    unfold PW
    rw [anot_0, ssm_pc hs (by omega)]
    exact and_congr Iff.rfl ⟨fun z => ⟨z.2, z.1⟩, fun z => ⟨z.2, z.1⟩⟩
  have Pu : ∀ s, P s → s < u + 1 := fun s hs => by
    rw [hP] at hs
    have : s = s &&& u := Nat.eq_of_testBit_eq (fun i => by
      rw [Nat.testBit_and]
      cases b : s.testBit i
      · rfl
      · rw [hs.1 i b]
        rfl)
    rw [this]
    exact Nat.lt_succ_of_le Nat.and_le_right
  have cend : csm P (2 ^ N) = csm P (u + 1) := by
    have := csm_hi (P := P) (m := u + 1) (2 ^ N - (u + 1)) (fun s hs z => by have := Pu s z; omega)
    rw [show u + 1 + (2 ^ N - (u + 1)) = 2 ^ N by omega] at this
    exact this
  unfold f_X12_layAsh
  rw [r_cv R, s_could R W hN, fcall_some, ← hu, ← hP]
  have e1 : rS m S F = rS m S (aF F (F 0 28) (F 0 29) (F 0 30)) := by rw [← aF_self]
  rw [e1, r_p (aF_R R _ _ _), aF_28, r_p (aF_R R _ _ _), aF_29, r_p (aF_R R _ _ _), aF_30]
  unfold f_X12_layAsh_b23
  refine lpe (fun (r : Int → Int → Int → Int → Int → fK) i (p : Nat × Nat) => r (m : Int) W0 M0 (u : Int) (i : Int) (rS m S (aF F (csm P i) p.1 p.2))) (fun i p => p.1 < 4096 ∧ p.2 < 4096 ∧ (∀ j, p.1.testBit j = true ↔ (u.testBit j = true ∧ ∀ s, s < i → P s → s.testBit j = true)) ∧ (∀ j, p.2.testBit j = true ↔ (u.testBit j = true ∧ ∀ s, s < i → P s → ¬ s.testBit j = true))) (fun r => ∃ A B : Nat, r = some (0, rS m S (aF F (csm P (2 ^ N)) A B)) ∧ (∀ j, A.testBit j = true ↔ (u.testBit j = true ∧ ∀ s, s < 2 ^ N → P s → s.testBit j = true)) ∧ (∀ j, B.testBit j = true ↔ (u.testBit j = true ∧ ∀ s, s < 2 ^ N → P s → ¬ s.testBit j = true))) (N := u + 1) ?_ ?_ jN 0 (u, u) (by omega) (by unfold jN; omega) ⟨by omega, by omega, fun j => ⟨fun z => ⟨z, fun s hs => by omega⟩, fun z => z.1⟩, fun j => ⟨fun z => ⟨z, fun s hs => by omega⟩, fun z => z.1⟩⟩
  · intro r i p hi hinv ih
    obtain ⟨p1, p2, p3, p4⟩ := hinv
    show ∃ A B : Nat, f_X12_layAsh_b23B r _ _ _ _ _ _ = _ ∧ _
    unfold f_X12_layAsh_b23B f_X12_layAsh_b94
    have Ra := aF_R R (csm P i) p.1 p.2
    have ea : ∀ c A B, aF F c A B 1 = F 1 := fun c A B => aF_o _ _ _ _ (by decide)
    have cb := csm_b P i
    have Wa : Wf (aF F (csm P i) p.1 p.2 1) := by rw [ea]; exact W
    have Na : aF F (csm P i) p.1 p.2 1 0 = (N : Int) := by rw [ea]; exact hN
    have wv : f_X12_weightOf (m : Int) (i : Int) (rS m S (aF F (csm P i) p.1 p.2)) = some (ssm (fun l => F 1 (14 + 5 * l)) i N, rS m S (aF F (csm P i) p.1 p.2)) := by
      rw [s_weightOf Ra Wa Na (by omega), ea]
    have pe := Pe i (by omega)
    have ext : ¬ P i → ∃ A B : Nat, r (m : Int) W0 M0 (u : Int) ((i + 1 : Nat) : Int) (rS m S (aF F (csm P i) p.1 p.2)) = some (0, rS m S (aF F (csm P (2 ^ N)) A B)) ∧ (∀ j, A.testBit j = true ↔ (u.testBit j = true ∧ ∀ s, s < 2 ^ N → P s → s.testBit j = true)) ∧ (∀ j, B.testBit j = true ↔ (u.testBit j = true ∧ ∀ s, s < 2 ^ N → P s → ¬ s.testBit j = true)) := fun hn => by
      have e : csm P (i + 1) = csm P i := by rw [csm_s, bb_f hn, Int.add_zero]
      have := ih p ⟨p1, p2, fun j => by
        rw [p3]
        refine and_congr Iff.rfl ⟨fun z s hs hq => ?_, fun z s hs hq => z s (by omega) hq⟩
        by_cases es : s = i
        · subst es; exact absurd hq hn
        · exact z s (by omega) hq, fun j => by
        rw [p4]
        refine and_congr Iff.rfl ⟨fun z s hs hq => ?_, fun z s hs hq => z s (by omega) hq⟩
        by_cases es : s = i
        · subst es; exact absurd hq hn
        · exact z s (by omega) hq⟩
      rw [e] at this
      exact this
    rw [if_neg (by omega), anot (by omega), s_bits (by omega), fcall_some, r_cv Ra, wv, fcall_some, r_g Ra, (aF_k F _ _ _).1, w32_of (z := csm P i + 1) (by omega) (by omega), r_p Ra, aF_28, r_g (aF_R R _ _ _), (aF_k F _ _ _).2.1, iand_n (by omega), r_p (aF_R R _ _ _), aF_29, r_g (aF_R R _ _ _), (aF_k F _ _ _).2.2, anot (by omega), r_p (aF_R R _ _ _), aF_30]
    simp only [flet_eq]
    rw [w32_of (z := (i : Int) + 1) (by omega) (by omega), zs]
    by_cases c1 : i ^^^ (i &&& u) = 0
    · rw [if_pos (by omega)]
      by_cases c2 : ((pcf 31 i : Nat) : Int) = M0
      · rw [if_pos c2]
        by_cases c3 : ssm (fun l => F 1 (14 + 5 * l)) i N = W0
        · rw [if_pos c3]
          have hp : P i := pe.mpr ⟨c1, c2, c3⟩
          have e : csm P (i + 1) = csm P i + 1 := by rw [csm_s, bb_t hp]
          have := ih (p.1 &&& i, p.2 ^^^ (p.2 &&& i)) ⟨Nat.lt_of_le_of_lt Nat.and_le_left p1, Nat.xor_lt_two_pow (n := 12) p2 (Nat.lt_of_le_of_lt Nat.and_le_left p2), fun j => by
            rw [Nat.testBit_and, Bool.and_eq_true, p3]
            constructor
            · rintro ⟨⟨z1, z2⟩, z3⟩
              refine ⟨z1, fun s hs hq => ?_⟩
              by_cases es : s = i
              · subst es; exact z3
              · exact z2 s (by omega) hq
            · rintro ⟨z1, z2⟩
              exact ⟨⟨z1, fun s hs hq => z2 s (by omega) hq⟩, z2 i (by omega) hp⟩, fun j => by
            rw [anot_t, Bool.and_eq_true, p4]
            constructor
            · rintro ⟨⟨z1, z2⟩, z3⟩
              refine ⟨z1, fun s hs hq => ?_⟩
              by_cases es : s = i
              · subst es
                intro q
                rw [q] at z3
                exact Bool.noConfusion z3
              · exact z2 s (by omega) hq
            · rintro ⟨z1, z2⟩
              refine ⟨⟨z1, fun s hs hq => z2 s (by omega) hq⟩, ?_⟩
              rw [Bool.eq_false_iff.mpr (z2 i (by omega) hp)]
              rfl⟩
          rw [e] at this
          exact this
        · rw [if_neg c3]
          exact ext (fun z => c3 (pe.mp z).2.2)
      · rw [if_neg c2]
        exact ext (fun z => c2 (pe.mp z).2.1)
    · rw [if_neg (by omega)]
      exact ext (fun z => c1 (pe.mp z).1)
  · intro r p hinv
    obtain ⟨p1, p2, p3, p4⟩ := hinv
    show ∃ A B : Nat, f_X12_layAsh_b23B r _ _ _ _ _ _ = _ ∧ _
    unfold f_X12_layAsh_b23B
    refine ⟨p.1, p.2, by rw [if_pos (by omega), cend], fun j => ?_, fun j => ?_⟩
    · rw [p3]
      exact and_congr Iff.rfl ⟨fun z s hs hq => z s (Pu s hq) hq, fun z s hs hq => z s (by omega) hq⟩
    · rw [p4]
      exact and_congr Iff.rfl ⟨fun z s hs hq => z s (Pu s hq) hq, fun z s hs hq => z s (by omega) hq⟩
end AR
section AG
variable {x : Nat}
theorem g_ash (w n : Int) : Good x (f_X11_ash (x : Int) w n) (f_X12_ash ((x + 426 : Nat) : Int) w n) := Good_k (fun Z C F V R h T => by
  have I := CI_g (y := x + 426) (N := 12) (F := F) h.1.1
  have Rl := h.2.1
  have H := Rel_HR I Rl (TXT_C T)
  have W := INV_W h
  have w0 := W.1.1
  obtain ⟨N, hN⟩ : ∃ N : Nat, F 1 0 = (N : Int) := ⟨(F 1 0).toNat, by omega⟩
  unfold f_X11_ash f_X11_ash_b20 f_X12_ash f_X12_ash_b20
  by_cases h1 : 0 ≤ w ∧ w ≤ 108
  · by_cases h2 : 0 ≤ n ∧ n ≤ 12
    · obtain ⟨A, O, g1, _⟩ := c_findAshes I Rl.1 H.2.2.1 W hN h1 h2
      have I2 := aC_I (c5_I I ((mk (brnP (F 1)) N : Nat) : Int)) (csm (PW (fun l => F 1 (14 + 5 * l)) (mk (brnP (F 1)) N) N w n) (2 ^ N)) A O
      refine ⟨csm (PW (fun l => F 1 (14 + 5 * l)) (mk (brnP (F 1)) N) N w n) (2 ^ N), _, F 1, ?_, I2, Rel_fr Rl (fun i a b => by rw [aC_o _ _ _ _ (by omega), c5_o _ _ (by omega)]), ⟨by rw [aC_o _ _ _ _ (by omega), c5_o _ _ (by omega)], fun i a b => by rw [aC_o _ _ _ _ (by omega), c5_o _ _ (by omega)]⟩, rfl, fun S2 hS R2 => ?_⟩
      · rw [s_within, fcall_some, if_b01, if_pos h1, s_within, fcall_some, if_b01, if_pos h2, cr0_9 I, cr0_1 I, c_v I (i := 417) (by decide) rfl, g1, fcall_some, cr0_9 I2, cg_417 I2, (aC_k _ _ _ _).1]
      · obtain ⟨A', B', q1, _⟩ := s_layAsh R2.1 W hN w n
        have Ra := aF_R R2.1 (csm (PW (fun l => F 1 (14 + 5 * l)) (mk (brnP (F 1)) N) N w n) (2 ^ N)) A' B'
        refine ⟨_, ?_, aF_K R2.1 (csm (PW (fun l => F 1 (14 + 5 * l)) (mk (brnP (F 1)) N) N w n) (2 ^ N)) A' B'⟩
        rw [s_isIn, fcall_some, if_b01, if_pos h1, s_isIn, fcall_some, if_b01, if_pos h2, r_cv R2.1, q1, fcall_some, r_g Ra, (aF_k F _ _ _).1]
    · refine ⟨-1, C, F 1, ?_, I, Rl, KF_r C, rfl, fun S2 hS R2 => ⟨F, ?_, RK_r R2.1⟩⟩
      · rw [s_within, fcall_some, if_b01, if_pos h1, s_within, fcall_some, if_b01, if_neg h2]
      · rw [s_isIn, fcall_some, if_b01, if_pos h1, s_isIn, fcall_some, if_b01, if_neg h2]
  · refine ⟨-1, C, F 1, ?_, I, Rl, KF_r C, rfl, fun S2 hS R2 => ⟨F, ?_, RK_r R2.1⟩⟩
    · rw [s_within, fcall_some, if_b01, if_neg h1]
    · rw [s_isIn, fcall_some, if_b01, if_neg h1])
theorem g_burnt (w n y : Int) : Good x (f_X11_burnt (x : Int) w n y) (f_X12_burnt ((x + 426 : Nat) : Int) w n y) := Good_k (fun Z C F V R h T => by
  have I := CI_g (y := x + 426) (N := 12) (F := F) h.1.1
  have Rl := h.2.1
  have H := Rel_HR I Rl (TXT_C T)
  have W := INV_W h
  have w0 := W.1.1
  obtain ⟨N, hN⟩ : ∃ N : Nat, F 1 0 = (N : Int) := ⟨(F 1 0).toNat, by omega⟩
  have N12 : 2 ^ N ≤ 4096 := Nat.pow_le_pow_right (n := 2) (by decide) (show N ≤ 12 by omega)
  have ul : mk (brnP (F 1)) N < 2 ^ N := mk_lt _ N
  unfold f_X11_burnt f_X11_burnt_b55 f_X12_burnt f_X12_burnt_b20 f_X12_burnt_b54
  by_cases h1 : 0 ≤ w ∧ w ≤ 108
  · by_cases h2 : 0 ≤ n ∧ n ≤ 12
    · obtain ⟨A, O, g1, g2, g3, g4, g5⟩ := c_findAshes I Rl.1 H.2.2.1 W hN h1 h2
      obtain ⟨P, hP⟩ : ∃ P : Nat → Prop, P = PW (fun l => F 1 (14 + 5 * l)) (mk (brnP (F 1)) N) N w n := ⟨_, rfl⟩
      obtain ⟨u, hu⟩ : ∃ u, u = mk (brnP (F 1)) N := ⟨_, rfl⟩
      rw [← hP] at g1 g4 g5
      rw [← hu] at g1
      rw [← hu] at ul
      have cb := csm_b P (2 ^ N)
      have I2 := aC_I (c5_I I (u : Int)) (csm P (2 ^ N)) A O
      have ca : f_X11_ash (x : Int) w n (cS x (gS (x + 426) 12 Z F) C) = some (csm P (2 ^ N), cS x (gS (x + 426) 12 Z F) (aC (c5 C (u : Int)) (csm P (2 ^ N)) A O)) := by
        unfold f_X11_ash f_X11_ash_b20
        rw [s_within, fcall_some, if_b01, if_pos h1, s_within, fcall_some, if_b01, if_pos h2, cr0_9 I, cr0_1 I, c_v I (i := 417) (by decide) rfl, g1, fcall_some, cr0_9 I2, cg_417 I2, (aC_k _ _ _ _).1]
      refine ⟨if csm P (2 ^ N) = 0 then 0 else if y = 0 then ((u ^^^ (u &&& O) : Nat) : Int) else (A : Int), _, F 1, ?_, I2, Rel_fr Rl (fun i a b => by rw [aC_o _ _ _ _ (by omega), c5_o _ _ (by omega)]), ⟨by rw [aC_o _ _ _ _ (by omega), c5_o _ _ (by omega)], fun i a b => by rw [aC_o _ _ _ _ (by omega), c5_o _ _ (by omega)]⟩, rfl, fun S2 hS R2 => ?_⟩
      · rw [cv_0 I, ca, fcall_some, if_neg (by omega), cr0_9 I2, cg_417 I2, (aC_k _ _ _ _).1]
        by_cases c0 : csm P (2 ^ N) = 0
        · rw [if_pos c0, if_pos c0]
        · rw [if_neg c0, if_neg c0]
          by_cases hy : y = 0
          · rw [if_pos hy, if_pos hy, cr0_9 I2, cg_417 I2, (aC_k _ _ _ _).2.2.2, c5_v, cr0_9 I2, cg_417 I2, (aC_k _ _ _ _).2.2.1, anot (by omega)]
          · rw [if_neg hy, if_neg hy, cr0_9 I2, cg_417 I2, (aC_k _ _ _ _).2.1]
      · obtain ⟨A', B', q1, q2, q3⟩ := s_layAsh R2.1 W hN w n
        rw [← hP] at q1 q2 q3
        rw [← hu] at q2 q3
        have Ra := aF_R R2.1 (csm P (2 ^ N)) A' B'
        refine ⟨_, ?_, aF_K R2.1 (csm P (2 ^ N)) A' B'⟩
        rw [s_isIn, fcall_some, if_b01, if_pos h1, s_isIn, fcall_some, if_b01, if_pos h2, r_cv R2.1, q1, fcall_some, r_g Ra, (aF_k F _ _ _).1]
        by_cases c0 : csm P (2 ^ N) = 0
        · rw [if_pos c0, if_pos c0]
        · rw [if_neg c0, if_neg c0]
          by_cases hy : y = 0
          · have e : B' = u ^^^ (u &&& O) := Nat.eq_of_testBit_eq (fun i => by
              rw [anot_t]
              have e1 := q3 i
              have e2 := g5 i
              rw [Bool.eq_iff_iff, Bool.and_eq_true, e1]
              constructor
              · rintro ⟨z1, z2⟩
                refine ⟨z1, ?_⟩
                rw [Bool.not_eq_true', Bool.eq_false_iff]
                intro q
                obtain ⟨s, hs, hq, hb⟩ := e2.mp q
                exact z2 s hs hq hb
              · rintro ⟨z1, z2⟩
                refine ⟨z1, fun s hs hq hb => ?_⟩
                rw [Bool.not_eq_true', Bool.eq_false_iff] at z2
                exact z2 (e2.mpr ⟨s, hs, hq, hb⟩))
            rw [if_pos hy, if_pos hy, r_g Ra, (aF_k F _ _ _).2.2, e]
          · have ex : ∃ s, s < 2 ^ N ∧ P s := Classical.byContradiction (fun z => c0 (csm_0 _ (fun s hs hq => z ⟨s, hs, hq⟩)))
            have e : A' = A := Nat.eq_of_testBit_eq (fun i => by
              rw [Bool.eq_iff_iff, q2, g4]
              constructor
              · rintro ⟨z1, z2⟩
                refine ⟨?_, z2⟩
                rw [hu, mk_bit, Bool.and_eq_true, decide_eq_true_eq] at z1
                exact z1.1
              · rintro ⟨z1, z2⟩
                obtain ⟨s, hs, hq⟩ := ex
                refine ⟨?_, z2⟩
                have := z2 s hs hq
                rw [hP] at hq
                rw [hu]
                exact hq.1 i this)
            rw [if_neg hy, if_neg hy, r_g Ra, (aF_k F _ _ _).2.1, e]
    · refine ⟨-1, C, F 1, ?_, I, Rl, KF_r C, rfl, fun S2 hS R2 => ⟨F, ?_, RK_r R2.1⟩⟩
      · unfold f_X11_ash f_X11_ash_b20
        rw [cv_0 I, s_within, fcall_some, if_b01, if_pos h1, s_within, fcall_some, if_b01, if_neg h2, fcall_some, if_pos rfl]
      · rw [s_isIn, fcall_some, if_b01, if_pos h1, s_isIn, fcall_some, if_b01, if_neg h2]
  · refine ⟨-1, C, F 1, ?_, I, Rl, KF_r C, rfl, fun S2 hS R2 => ⟨F, ?_, RK_r R2.1⟩⟩
    · unfold f_X11_ash f_X11_ash_b20
      rw [cv_0 I, s_within, fcall_some, if_b01, if_neg h1, fcall_some, if_pos rfl]
    · rw [s_isIn, fcall_some, if_b01, if_neg h1])
end AG
