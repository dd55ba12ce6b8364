-- ash, the class' side
section AC
variable {x : Nat} {S : jSt} {C : Nat → Nat → Int} {a : Nat → Int}
def aC (C : Nat → Nat → Int) (c A O : Int) : Nat → Nat → Int := va_up C 417 (va_up (va_up (va_up (C 417) 2 c) 3 A) 4 O)
theorem aC_o (C : Nat → Nat → Int) (c A O : Int) {i : Nat} (h : i ≠ 417) : aC C c A O i = C i := va_up_ne _ _ h
theorem aC_k (C : Nat → Nat → Int) (c A O : Int) : aC C c A O 417 2 = c ∧ aC C c A O 417 3 = A ∧ aC C c A O 417 4 = O ∧ aC C c A O 417 5 = C 417 5 := by
  unfold aC
  rw [va_up_self]
  refine ⟨?_, ?_, va_up_self _ _ _, ?_⟩
  · rw [va_up_ne _ _ (by decide), va_up_ne _ _ (by decide), va_up_self]
  · rw [va_up_ne _ _ (by decide), va_up_self]
  · rw [va_up_ne _ _ (by decide), va_up_ne _ _ (by decide), va_up_ne _ _ (by decide)]
theorem aC_I (I : CI x S C) (c A O : Int) : CI x S (aC C c A O) := CI_v I (fun k hk => by
  have h2 : k ≠ 2 := fun z => by subst z; exact hk rfl
  have h3 : k ≠ 3 := fun z => by subst z; exact hk rfl
  have h4 : k ≠ 4 := fun z => by subst z; exact hk rfl
  rw [va_up_ne _ _ h4, va_up_ne _ _ h3, va_up_ne _ _ h2])
theorem aC_2 (C : Nat → Nat → Int) (c A O z : Int) : va_up (aC C c A O) 417 (va_up (aC C c A O 417) 2 z) = aC C z A O := by
  unfold aC
  rw [va_up_self, va_uu]
  congr 1
  funext k
  by_cases h4 : k = 4
  · subst h4; rw [va_up_ne _ _ (by decide), va_up_self, va_up_self]
  · by_cases h3 : k = 3
    · subst h3; rw [va_up_ne _ _ (by decide), va_up_ne _ _ (by decide), va_up_self, va_up_ne _ _ (by decide), va_up_self]
    · by_cases h2 : k = 2
      · subst h2; rw [va_up_self, va_up_ne _ _ (by decide), va_up_ne _ _ (by decide), va_up_self]
      · rw [va_up_ne _ _ h2, va_up_ne _ _ h4, va_up_ne _ _ h3, va_up_ne _ _ h2, va_up_ne _ _ h4, va_up_ne _ _ h3, va_up_ne _ _ h2]
theorem aC_3 (C : Nat → Nat → Int) (c A O z : Int) : va_up (aC C c A O) 417 (va_up (aC C c A O 417) 3 z) = aC C c z O := by
  unfold aC
  rw [va_up_self, va_uu]
  congr 1
  funext k
  by_cases h4 : k = 4
  · subst h4; rw [va_up_ne _ _ (by decide), va_up_self, va_up_self]
  · by_cases h3 : k = 3
    · subst h3; rw [va_up_self, va_up_ne _ _ (by decide), va_up_self]
    · rw [va_up_ne _ _ h3, va_up_ne _ _ h4, va_up_ne _ _ h3, va_up_ne _ _ h4, va_up_ne _ _ h3]
theorem aC_4 (C : Nat → Nat → Int) (c A O z : Int) : va_up (aC C c A O) 417 (va_up (aC C c A O 417) 4 z) = aC C c A z := by
  unfold aC
  rw [va_up_self, va_uu, va_uu]
theorem c_tryAshes (I : CI x S C) (T : Td a C 1) (W : Wf a) {N : Nat} (hN : a 0 = (N : Int)) {u : Nat} (hu : C 417 5 = (u : Int)) (hu2 : u < 2 ^ N) {W0 M0 : Int} (hW0 : 0 ≤ W0 ∧ W0 ≤ 108) (hM0 : 0 ≤ M0 ∧ M0 ≤ 12) : ∀ (j n l t : Nat) (c : Int) (A O : Nat), l + j = N → j < n → t < 2 ^ l → (∀ i, t.testBit i = true → u.testBit i = true) → A < 4096 → O < 4096 → 0 ≤ c → c + csm (QW (fun l => a (14 + 5 * l)) u N W0 M0 l t) (2 ^ N) ≤ 4096 → ∃ A' O' : Nat, grp_X0_tryAshes n ((x + 417 : Nat) : Int) (l : Int) (W0 - ssm (fun l => a (14 + 5 * l)) t l) (M0 - ssm (fun _ => 1) t l) (t : Int) (cS x S (aC C c A O)) = some (0, cS x S (aC C (c + csm (QW (fun l => a (14 + 5 * l)) u N W0 M0 l t) (2 ^ N)) A' O')) ∧ A' < 4096 ∧ O' < 4096 ∧ (∀ i, A'.testBit i = true ↔ (A.testBit i = true ∧ ∀ s, s < 2 ^ N → QW (fun l => a (14 + 5 * l)) u N W0 M0 l t s → s.testBit i = true)) ∧ (∀ i, O'.testBit i = true ↔ (O.testBit i = true ∨ ∃ s, s < 2 ^ N ∧ QW (fun l => a (14 + 5 * l)) u N W0 M0 l t s ∧ s.testBit i = true)) := by
  have w0 := W.1.1
  have t0 := T.1
  have N12 : 2 ^ N ≤ 4096 := Nat.pow_le_pow_right (n := 2) (by decide) (show N ≤ 12 by omega)
  have wt : ∀ i, i < N → 1 ≤ a (14 + 5 * i) ∧ a (14 + 5 * i) ≤ 9 := fun i hi => (W.2.1 i (by omega)).2.2.2
  obtain ⟨w, hw⟩ : ∃ w : Nat → Int, w = fun l => a (14 + 5 * l) := ⟨_, rfl⟩
  rw [← hw]
  have wb : ∀ i, i < N → 0 ≤ w i ∧ w i ≤ 9 := fun i hi => by
    have h1 := wt i hi
    rw [hw]
    exact ⟨Int.le_trans (by decide) h1.1, h1.2⟩
  intro j
  induction j with
  | zero =>
    intro n l t c A O hl hn ht hsub hA hO hc hc2
    have e : l = N := by omega
    subst e
    obtain ⟨n, rfl⟩ : ∃ k, n = k + 1 := ⟨n - 1, by omega⟩
    have sb1 := ssm_b (w := w) (c := 9) t l (by omega) wb
    have sb2 := ssm_b (w := fun _ => 1) (c := 1) t l (by omega) (fun _ _ => by omega)
    have qi : ∀ s, s < 2 ^ l → (QW w u l W0 M0 l t s ↔ (s = t ∧ ssm w t l = W0 ∧ ssm (fun _ => 1) t l = M0)) := fun s hs => by
      unfold QW PW
      rw [Nat.mod_eq_of_lt hs]
      constructor
      · rintro ⟨z, z1, z2, z3⟩
        subst z
        exact ⟨rfl, z2, z3⟩
      · rintro ⟨z, z2, z3⟩
        subst z
        exact ⟨rfl, hsub, z2, z3⟩
    have Ia := aC_I I c A O
    obtain ⟨k2, k3, k4, k5⟩ := aC_k C c A O
    show ∃ A' O' : Nat, f_X0_tryAshes_G (grp_X0_tryAshes n) _ _ _ _ _ _ = _ ∧ _
    unfold f_X0_tryAshes_G f_X0_tryAshes_b8 f_X0_tryAshes_b60
    by_cases hp : ssm w t l = W0 ∧ ssm (fun _ => 1) t l = M0
    · have e1 : csm (QW w u l W0 M0 l t) (2 ^ l) = 1 := csm_one _ ht (fun s hs => by rw [qi s hs]; exact ⟨fun z => z.1, fun z => ⟨z, hp⟩⟩)
      rw [e1] at hc2 ⊢
      have b3 : va_up (aC C (c + 1) A O 417) 3 = va_up (aC C (c + 1) A O 417) 3 := rfl
      refine ⟨A &&& t, O ||| t, ?_, Nat.lt_of_le_of_lt Nat.and_le_left hA, Nat.or_lt_two_pow (n := 12) hO (by omega), fun i => ?_, fun i => ?_⟩
      · rw [if_neg (by omega), if_pos (by omega), cr417_7 Ia, cg_1 Ia, aC_o _ _ _ _ (by decide), t0, hN, if_neg (by omega), if_pos (by omega), if_pos (by omega), cg_417 Ia, k2, w32_of (by omega) (by omega), cp_417 Ia, aC_2, cg_417 (aC_I I _ _ _), (aC_k C _ _ _).2.1, iand_n (by omega), cp_417 (aC_I I _ _ _), aC_3, cg_417 (aC_I I _ _ _), (aC_k C _ _ _).2.2.1, ior_n (by omega) (by omega), cp_417 (aC_I I _ _ _), aC_4]
      · rw [Nat.testBit_and, Bool.and_eq_true]
        constructor
        · rintro ⟨z1, z2⟩
          exact ⟨z1, fun s hs hq => by rw [((qi s hs).mp hq).1]; exact z2⟩
        · rintro ⟨z1, z2⟩
          exact ⟨z1, z2 t ht ((qi t ht).mpr ⟨rfl, hp⟩)⟩
      · rw [Nat.testBit_or, Bool.or_eq_true]
        constructor
        · rintro (z | z)
          · exact Or.inl z
          · exact Or.inr ⟨t, ht, (qi t ht).mpr ⟨rfl, hp⟩, z⟩
        · rintro (z | ⟨s, hs, hq, z⟩)
          · exact Or.inl z
          · rw [((qi s hs).mp hq).1] at z
            exact Or.inr z
    · have no : ∀ s, s < 2 ^ l → ¬ QW w u l W0 M0 l t s := fun s hs z => hp ((qi s hs).mp z).2
      rw [csm_0 _ no, Int.add_zero]
      refine ⟨A, O, ?_, hA, hO, fun i => ⟨fun z => ⟨z, fun s hs hq => absurd hq (no s hs)⟩, fun z => z.1⟩, fun i => ⟨fun z => Or.inl z, fun z => z.elim id (fun ⟨s, hs, hq, _⟩ => absurd hq (no s hs))⟩⟩
      by_cases d1 : W0 - ssm w t l < 0
      · rw [if_pos d1]
      · rw [if_neg d1]
        by_cases d2 : 0 ≤ M0 - ssm (fun _ => 1) t l
        · rw [if_pos d2, cr417_7 Ia, cg_1 Ia, aC_o _ _ _ _ (by decide), t0, hN, if_neg (by omega)]
          by_cases d3 : W0 - ssm w t l = 0
          · rw [if_pos d3, if_neg (fun z => hp ⟨by omega, by omega⟩)]
          · rw [if_neg d3]
        · rw [if_neg d2]
  | succ j ih =>
    intro n l t c A O hl hn ht hsub hA hO hc hc2
    obtain ⟨n, rfl⟩ : ∃ k, n = k + 1 := ⟨n - 1, by omega⟩
    have sb1 := ssm_b (w := w) (c := 9) t l (by omega) (fun i hi => wb i (by omega))
    have sb2 := ssm_b (w := fun _ => 1) (c := 1) t l (by omega) (fun _ _ => by omega)
    have wl := wb l (by omega)
    have Ia := aC_I I c A O
    obtain ⟨k2, k3, k4, k5⟩ := aC_k C c A O
    have lN : 2 ^ l < 2 ^ N := Nat.pow_lt_pow_right (by decide) (by omega)
    have lS : 2 ^ (l + 1) = 2 ^ l + 2 ^ l := by rw [Nat.pow_succ]; omega
    obtain ⟨s1, s2⟩ := ssm_top (w := w) ht
    obtain ⟨s3, s4⟩ := ssm_top (w := fun _ => 1) ht
    show ∃ A' O' : Nat, f_X0_tryAshes_G (grp_X0_tryAshes n) _ _ _ _ _ _ = _ ∧ _
    unfold f_X0_tryAshes_G f_X0_tryAshes_b8 f_X0_tryAshes_b110
    by_cases dd : W0 - ssm w t l < 0 ∨ M0 - ssm (fun _ => 1) t l < 0
    · have no : ∀ s, s < 2 ^ N → ¬ QW w u N W0 M0 l t s := fun s hs z => by
        have := QW_lo (by omega) (fun i hi => (wb i hi).1) z
        omega
      rw [csm_0 _ no, Int.add_zero]
      refine ⟨A, O, ?_, hA, hO, fun i => ⟨fun z => ⟨z, fun s hs hq => absurd hq (no s hs)⟩, fun z => z.1⟩, fun i => ⟨fun z => Or.inl z, fun z => z.elim id (fun ⟨s, hs, hq, _⟩ => absurd hq (no s hs))⟩⟩
      by_cases d1 : W0 - ssm w t l < 0
      · rw [if_pos d1]
      · rw [if_neg d1, if_neg (by omega)]
    · have sp := csm_or (P := QW w u N W0 M0 (l + 1) t) (Q := QW w u N W0 M0 (l + 1) (t ||| 2 ^ l)) (R := QW w u N W0 M0 l t) (2 ^ N) (fun s hs => ⟨(QW_s ht).1, (QW_s ht).2.1⟩)
      have q1 := csm_b (QW w u N W0 M0 (l + 1) t) (2 ^ N)
      have q2 := csm_b (QW w u N W0 M0 (l + 1) (t ||| 2 ^ l)) (2 ^ N)
      obtain ⟨A1, O1, g1, g2, g3, g4, g5⟩ := ih n (l + 1) t c A O (by omega) (by omega) (by omega) hsub hA hO hc (by omega)
      rw [s1, s3] at g1
      have I1 := aC_I I (c + csm (QW w u N W0 M0 (l + 1) t) (2 ^ N)) A1 O1
      rw [if_neg (by omega), if_pos (by omega), cr417_7 Ia, cg_1 Ia, aC_o _ _ _ _ (by decide), t0, hN, if_pos (by omega), c_v Ia (i := 417) (by decide) rfl, w32_of (z := (l : Int) + 1) (by omega) (by omega), zs, g1, fcall_some, cg_417 I1, (aC_k C _ _ _).2.2.2, hu, bit_n (by omega) (by omega)]
      by_cases hb : u.testBit l = true
      · have ot : t ||| 2 ^ l < 2 ^ (l + 1) := by rw [Nat.or_two_pow_eq_add_of_lt ht]; omega
        obtain ⟨A2, O2, f1, f2, f3, f4, f5⟩ := ih n (l + 1) (t ||| 2 ^ l) (c + csm (QW w u N W0 M0 (l + 1) t) (2 ^ N)) A1 O1 (by omega) (by omega) ot (fun i hi => by
          rw [Nat.testBit_or, Bool.or_eq_true, Nat.testBit_two_pow, decide_eq_true_eq] at hi
          rcases hi with hi | hi
          · exact hsub i hi
          · subst hi; exact hb) g2 g3 (by omega) (by omega)
        rw [s2, s4] at f1
        have ew : C (1 + 2) l = w l := by rw [hw]; exact (T.2.2.2.2 l (by omega)).2
        refine ⟨A2, O2, ?_, f2, f3, fun i => ?_, fun i => ?_⟩
        · rw [if_pos hb, if_neg (by decide), cr417_7 I1, cr1_3 I1, al_3 I1 (by omega) (by omega), toNat_z, aC_o _ _ _ _ (by decide), show C 3 l = w l from ew, ishl_n (by omega), ior_n (by omega) (by omega), c_v I1 (i := 417) (by decide) rfl, w32_of (z := W0 - ssm w t l - w l) (by omega) (by omega), w32_of (z := M0 - ssm (fun _ => 1) t l - 1) (by omega) (by omega), show W0 - ssm w t l - w l = W0 - (ssm w t l + w l) by omega, show M0 - ssm (fun _ => 1) t l - 1 = M0 - (ssm (fun _ => 1) t l + 1) by omega, f1, fcall_some, sp, Int.add_assoc]
        · rw [f4, g4]
          constructor
          · rintro ⟨⟨z1, z2⟩, z3⟩
            exact ⟨z1, fun s hs hq => ((QW_s ht).1.mp hq).elim (z2 s hs) (z3 s hs)⟩
          · rintro ⟨z1, z2⟩
            exact ⟨⟨z1, fun s hs hq => z2 s hs ((QW_s ht).1.mpr (Or.inl hq))⟩, fun s hs hq => z2 s hs ((QW_s ht).1.mpr (Or.inr hq))⟩
        · rw [f5, g5]
          constructor
          · rintro ((z | ⟨s, hs, hq, z⟩) | ⟨s, hs, hq, z⟩)
            · exact Or.inl z
            · exact Or.inr ⟨s, hs, (QW_s ht).1.mpr (Or.inl hq), z⟩
            · exact Or.inr ⟨s, hs, (QW_s ht).1.mpr (Or.inr hq), z⟩
          · rintro (z | ⟨s, hs, hq, z⟩)
            · exact Or.inl (Or.inl z)
            · rcases (QW_s ht).1.mp hq with hq | hq
              · exact Or.inl (Or.inr ⟨s, hs, hq, z⟩)
              · exact Or.inr ⟨s, hs, hq, z⟩
      · have no : ∀ s, ¬ QW w u N W0 M0 (l + 1) (t ||| 2 ^ l) s := fun s z => hb ((QW_s ht).2.2 z)
        rw [csm_0 (P := QW w u N W0 M0 (l + 1) (t ||| 2 ^ l)) _ (fun s _ => no s), Int.add_zero] at sp
        refine ⟨A1, O1, ?_, g2, g3, fun i => ?_, fun i => ?_⟩
        · rw [if_neg hb, if_pos rfl, sp]
        · rw [g4]
          constructor
          · rintro ⟨z1, z2⟩
            exact ⟨z1, fun s hs hq => ((QW_s ht).1.mp hq).elim (z2 s hs) (fun z => absurd z (no s))⟩
          · rintro ⟨z1, z2⟩
            exact ⟨z1, fun s hs hq => z2 s hs ((QW_s ht).1.mpr (Or.inl hq))⟩
        · rw [g5]
          constructor
          · rintro (z | ⟨s, hs, hq, z⟩)
            · exact Or.inl z
            · exact Or.inr ⟨s, hs, (QW_s ht).1.mpr (Or.inl hq), z⟩
          · rintro (z | ⟨s, hs, hq, z⟩)
            · exact Or.inl z
            · exact Or.inr ⟨s, hs, ((QW_s ht).1.mp hq).elim id (fun q => absurd q (no s)), z⟩
end AC
