-- both, either, if, and all of them
section JB
variable {x : Nat} {S : jSt} {C : Nat → Nat → Int} {tk : Nat → Nat} {tv : Nat → Int} {law T : Nat}
theorem botPc {P : List Nat} (h : botP P) : opn P = 42 ∧ rk (hd P) < 2 := by
  refine ⟨h.1, ?_⟩
  rcases h.2 with h2 | h2
  · rw [h2]; decide
  · omega
theorem botPc' {P : List Nat} (h : botP P) : askP P := by
  refine ⟨h.1, ?_⟩
  rcases h.2 with h2 | h2
  · exact Or.inl h2
  · exact Or.inr (by omega)
theorem eitPc {P : List Nat} (h : eitP P) : opn P = 42 ∧ rk (hd P) < 1 := by
  obtain ⟨R, rfl⟩ := hd_cons h (by decide)
  exact ⟨rfl, show rk 42 < 1 by decide⟩
theorem eitPc' {P : List Nat} (h : eitP P) : botP P := ⟨(eitPc h).1, Or.inl h⟩
theorem pBot {gA gB gE gI gO gP gS : Int → Int → jSt → Option (Int × jSt)} (I : CI x S C) (K : TKs C T tk tv) {k j q : Nat} {c : Nat → Int} (hk : k ≤ 8) (hq : q ≤ j) (hjT0 : j ≤ T)
    (hA : ∀ j q c, q ≤ j → j ≤ T → AskP x S C tk tv law T k j q c (gA ((x + 408 : Nat) : Int) (k : Int) (cS x S (rdS C j q c)))) : BotP x S C tk tv law T k j q c (f_X4_readBoth_G gA gB gE gI gO gP gS ((x + 408 : Nat) : Int) (k : Int) (cS x S (rdS C j q c))) := by
  have hT := K.1.2
  have J := rdS_CI I j q c
  have loop : ∀ (n i j1 q1 : Nat) (c1 : Nat → Int) (b1 : BDen), T - j1 < n → i < j1 → (j < j1 ∧ j1 ≤ T) → q1 ≤ q + (j1 - j) → (∀ i, i < q → c1 i = c i) → Seg c1 q q1 (bi b1) (5 + 5 * (8 - k)) → noAr (tk j1) → SOask tk tv law T k j (6 * k + 1) 2 botP b1 j1 → BotP x S C tk tv law T k j q c (jrep (fun _ _ _ _ => none) (fun r => f_X4_readBoth_b12B gA gB gE gI gO gP gS r) n ((x + 408 : Nat) : Int) (k : Int) (i : Int) (cS x S (rdS C j1 q1 c1))) := by
    intro n
    induction n with
    | zero => intro i j1 q1 c1 d1 h; omega
    | succ n ih =>
      intro i j1 q1 c1 b1 hn hi hj hq1 hc1 sg1 na so1
      rw [jrep_s]
      unfold f_X4_readBoth_b12B f_X4_readBoth_b62
      have J1 := rdS_CI I j1 q1 c1
      rw [if_neg (by omega), cv_408 J1, k_kind I K, fcall_some]
      by_cases t : tk j1 = 29
      · have hj1T : j1 < T := lt_T K (by omega)
        have J2 := rdS_CI I (j1 + 1) q1 c1
        rw [if_pos (by omega), k_adv I (by omega), cv_408 J2]
        have go : ∀ (s s' : SS) (P Q : List Nat) (k' : Nat) (r : Except (Nat × Nat) MS), P.length ≤ 6 * k + 1 → botP P → (∀ p ∈ Q, 2 ≤ rk p ∧ rk p ≤ 6) → cmpd (Q ++ P) = true → ems Q s' k' = some ((s.1, b1 :: s.2), k) → Rn tk tv law T (j1 + 1, (s.1, b1 :: s.2), 21 :: P, k, false) r → Rn tk tv law T (j1, s', Q ++ P, k', true) r := fun s s' P Q k' r hP hc hQ hcm hE h => by
          refine Rn_go ?_ (Nat.lt_succ_self j1) (by show j1 ≤ T; omega) h
          obtain ⟨hc1, hc2⟩ := botPc hc
          have eb : btw (tk j1) (Q ++ P) = 21 := by
            unfold btw
            rw [opn_app Q P (fun p hp => by have := hQ p hp; omega), hc1, t, hcm]
            rfl
          rw [pst_t]
          unfold beh
          rw [eb, if_pos (by decide)]
          show (match stl 2 (Q ++ P) s' k' with | none => _ | some (P', s', k') => _) = _
          rw [stl_app 2 (by omega) Q (fun p hp => (hQ p hp).1) hE]
          show (if 150 ≤ P.length then _ else _) = _
          rw [if_neg (by omega)]
        have cp2 : ∀ P, botP P → askP (21 :: P) := fun P hc => ⟨by rw [opn_c (by decide)]; exact (botPc hc).1, Or.inr (show 1 ≤ rk 21 ∧ rk 21 ≤ 3 by decide)⟩
        rcases hA (j1 + 1) q1 c1 (by omega) (by omega) with ⟨f, j', C', v, hf, hj', hfr, se⟩ | ⟨d2, j2, q2, c2, v, hj2, hq2, hc2, sg2, bd2, na2, b2, eb2, so2⟩
        · rw [v, fcall_some, if_pos rfl]
          refine Or.inl ⟨f, j', C', rfl, hf, hj', hfr, fun s P hP hc => ?_⟩
          obtain ⟨s', Q, k', hQ, hcm, hE, hR⟩ := so1 s P hP hc
          exact hR _ (go s s' P Q k' _ hP hc hQ hcm hE (se _ (21 :: P) (by rw [List.length_cons]; omega) (cp2 P hc)))
        · subst eb2
          have J3 := rdS_CI I j2 q2 c2
          rw [v, fcall_some, if_neg (by decide), cv_408 J3, k_emit I (by omega) (by omega) (by omega), fcall_some]
          simp only [flet_eq]
          rw [w32_of (by omega) (by omega), zs]
          have l1 := sg1.1.1
          have l2 := sg2.1.1
          refine ih (i + 1) j2 (q2 + 1) _ (fun e w => (b1 e w && b2 e w)) (by omega) (by omega) (by omega) (by omega) (fun i hi => ?_) ?_ na2 (fun s P hP hc => ?_)
          · rw [va_up_ne _ _ (by omega), hc2 i (by omega), hc1 i hi]
          · have s1 : Seg (va_up c2 q2 (29 * 16384 + 0)) q q1 (bi b1) _ := Seg_c sg1 (fun i h1 h2 => by rw [va_up_ne _ _ (by omega), hc2 i (by omega)])
            have s2 : Seg (va_up c2 q2 (29 * 16384 + 0)) q1 q2 (bi b2) _ := Seg_c sg2 (fun i h1 h2 => by rw [va_up_ne _ _ (by omega)])
            refine Seg_h (Seg_d (Seg_bin s1 s2 (k := 29) (by omega) (va_up_self _ _ _)) (fun e w _ => ?_)) (by omega)
            show bi (fun e w => (b1 e w && b2 e w)) e w = jn2 29 (bi b1 e w) (bi b2 e w)
            unfold bi jn2
            cases h1 : b1 e w <;> cases h2 : b2 e w <;> simp [h1, h2]
          · obtain ⟨s', Q, k', hQ, hcm, hE, hR⟩ := so1 s P hP hc
            obtain ⟨s2, Q2, k2, hQ2, hcm2, hE2, hR2⟩ := so2 (s.1, b1 :: s.2) (21 :: P) (by rw [List.length_cons]; omega) (cp2 P hc)
            refine ⟨s2, Q2 ++ [21], k2, fun p hp => ?_, by rw [List.append_assoc]; exact hcm2, ems_app Q2 [21] hE2 rfl, fun r h => hR r (go s s' P Q k' r hP hc hQ hcm hE (hR2 r (by rw [List.append_assoc] at h; exact h)))⟩
            rw [List.mem_append, List.mem_singleton] at hp
            rcases hp with hp | hp
            · have := hQ2 p hp; omega
            · rw [hp]; decide
      · rw [if_neg (by omega)]
        exact Or.inr ⟨bi b1, j1, q1, c1, rfl, hj, hq1, hc1, sg1, bi_b _, ⟨na, t⟩, b1, rfl, so1⟩
  unfold f_X4_readBoth_G
  rw [cv_408 J]
  rcases hA j q c hq hjT0 with ⟨f, j', C', v, hf, hj', hfr, se⟩ | ⟨d1, j1, q1, c1, v, hj1, hq1, hc1, sg1, bd1, na, b1, eb1, so1⟩
  · rw [v, fcall_some, if_pos rfl]
    exact Or.inl ⟨f, j', C', rfl, hf, hj', hfr, fun s P hP hc => se s P (by omega) (botPc' hc)⟩
  · subst eb1
    rw [v, fcall_some, if_neg (by decide)]
    refine loop jN 0 j1 q1 c1 b1 (by unfold jN; omega) (by omega) hj1 hq1 hc1 (Seg_h sg1 (by omega)) na (fun s P hP hc => ?_)
    obtain ⟨s', Q, k', hQ, hcm, hE, hR⟩ := so1 s P (by omega) (botPc' hc)
    exact ⟨s', Q, k', fun p hp => by have := hQ p hp; omega, hcm, hE, hR⟩
theorem pEit {gA gB gE gI gO gP gS : Int → Int → jSt → Option (Int × jSt)} (I : CI x S C) (K : TKs C T tk tv) {k j q : Nat} {c : Nat → Int} (hk : k ≤ 8) (hq : q ≤ j) (hjT0 : j ≤ T)
    (hA : ∀ j q c, q ≤ j → j ≤ T → BotP x S C tk tv law T k j q c (gB ((x + 408 : Nat) : Int) (k : Int) (cS x S (rdS C j q c)))) : EitP x S C tk tv law T k j q c (f_X4_readEither_G gA gB gE gI gO gP gS ((x + 408 : Nat) : Int) (k : Int) (cS x S (rdS C j q c))) := by
  have hT := K.1.2
  have J := rdS_CI I j q c
  have loop : ∀ (n i j1 q1 : Nat) (c1 : Nat → Int) (b1 : BDen), T - j1 < n → i < j1 → (j < j1 ∧ j1 ≤ T) → q1 ≤ q + (j1 - j) → (∀ i, i < q → c1 i = c i) → Seg c1 q q1 (bi b1) (6 + 5 * (8 - k)) → (noAr (tk j1) ∧ tk j1 ≠ 29) → SOask tk tv law T k j (6 * k) 1 eitP b1 j1 → EitP x S C tk tv law T k j q c (jrep (fun _ _ _ _ => none) (fun r => f_X4_readEither_b12B gA gB gE gI gO gP gS r) n ((x + 408 : Nat) : Int) (k : Int) (i : Int) (cS x S (rdS C j1 q1 c1))) := by
    intro n
    induction n with
    | zero => intro i j1 q1 c1 d1 h; omega
    | succ n ih =>
      intro i j1 q1 c1 b1 hn hi hj hq1 hc1 sg1 na so1
      rw [jrep_s]
      unfold f_X4_readEither_b12B f_X4_readEither_b62
      have J1 := rdS_CI I j1 q1 c1
      rw [if_neg (by omega), cv_408 J1, k_kind I K, fcall_some]
      by_cases t : tk j1 = 28
      · have hj1T : j1 < T := lt_T K (by omega)
        have J2 := rdS_CI I (j1 + 1) q1 c1
        rw [if_pos (by omega), k_adv I (by omega), cv_408 J2]
        have go : ∀ (s s' : SS) (P Q : List Nat) (k' : Nat) (r : Except (Nat × Nat) MS), P.length ≤ 6 * k → eitP P → (∀ p ∈ Q, 1 ≤ rk p ∧ rk p ≤ 6) → cmpd (Q ++ P) = true → ems Q s' k' = some ((s.1, b1 :: s.2), k) → Rn tk tv law T (j1 + 1, (s.1, b1 :: s.2), 22 :: P, k, false) r → Rn tk tv law T (j1, s', Q ++ P, k', true) r := fun s s' P Q k' r hP hc hQ hcm hE h => by
          refine Rn_go ?_ (Nat.lt_succ_self j1) (by show j1 ≤ T; omega) h
          obtain ⟨hc1, hc2⟩ := eitPc hc
          have eb : btw (tk j1) (Q ++ P) = 22 := by
            unfold btw
            rw [opn_app Q P (fun p hp => by have := hQ p hp; omega), hc1, t, hcm]
            rfl
          rw [pst_t]
          unfold beh
          rw [eb, if_pos (by decide)]
          show (match stl 1 (Q ++ P) s' k' with | none => _ | some (P', s', k') => _) = _
          rw [stl_app 1 (by omega) Q (fun p hp => (hQ p hp).1) hE]
          show (if 150 ≤ P.length then _ else _) = _
          rw [if_neg (by omega)]
        have cp2 : ∀ P, eitP P → botP (22 :: P) := fun P hc => ⟨by rw [opn_c (by decide)]; exact (eitPc hc).1, Or.inr (show rk 22 = 1 by decide)⟩
        rcases hA (j1 + 1) q1 c1 (by omega) (by omega) with ⟨f, j', C', v, hf, hj', hfr, se⟩ | ⟨d2, j2, q2, c2, v, hj2, hq2, hc2, sg2, bd2, na2, b2, eb2, so2⟩
        · rw [v, fcall_some, if_pos rfl]
          refine Or.inl ⟨f, j', C', rfl, hf, hj', hfr, fun s P hP hc => ?_⟩
          obtain ⟨s', Q, k', hQ, hcm, hE, hR⟩ := so1 s P hP hc
          exact hR _ (go s s' P Q k' _ hP hc hQ hcm hE (se _ (22 :: P) (by rw [List.length_cons]; omega) (cp2 P hc)))
        · subst eb2
          have J3 := rdS_CI I j2 q2 c2
          rw [v, fcall_some, if_neg (by decide), cv_408 J3, k_emit I (by omega) (by omega) (by omega), fcall_some]
          simp only [flet_eq]
          rw [w32_of (by omega) (by omega), zs]
          have l1 := sg1.1.1
          have l2 := sg2.1.1
          refine ih (i + 1) j2 (q2 + 1) _ (fun e w => (b1 e w || b2 e w)) (by omega) (by omega) (by omega) (by omega) (fun i hi => ?_) ?_ na2 (fun s P hP hc => ?_)
          · rw [va_up_ne _ _ (by omega), hc2 i (by omega), hc1 i hi]
          · have s1 : Seg (va_up c2 q2 (28 * 16384 + 0)) q q1 (bi b1) _ := Seg_c sg1 (fun i h1 h2 => by rw [va_up_ne _ _ (by omega), hc2 i (by omega)])
            have s2 : Seg (va_up c2 q2 (28 * 16384 + 0)) q1 q2 (bi b2) _ := Seg_c sg2 (fun i h1 h2 => by rw [va_up_ne _ _ (by omega)])
            refine Seg_h (Seg_d (Seg_bin s1 s2 (k := 28) (by omega) (va_up_self _ _ _)) (fun e w _ => ?_)) (by omega)
            show bi (fun e w => (b1 e w || b2 e w)) e w = jn2 28 (bi b1 e w) (bi b2 e w)
            unfold bi jn2
            cases h1 : b1 e w <;> cases h2 : b2 e w <;> simp [h1, h2]
          · obtain ⟨s', Q, k', hQ, hcm, hE, hR⟩ := so1 s P hP hc
            obtain ⟨s2, Q2, k2, hQ2, hcm2, hE2, hR2⟩ := so2 (s.1, b1 :: s.2) (22 :: P) (by rw [List.length_cons]; omega) (cp2 P hc)
            refine ⟨s2, Q2 ++ [22], k2, fun p hp => ?_, by rw [List.append_assoc]; exact hcm2, ems_app Q2 [22] hE2 rfl, fun r h => hR r (go s s' P Q k' r hP hc hQ hcm hE (hR2 r (by rw [List.append_assoc] at h; exact h)))⟩
            rw [List.mem_append, List.mem_singleton] at hp
            rcases hp with hp | hp
            · have := hQ2 p hp; omega
            · rw [hp]; decide
      · rw [if_neg (by omega)]
        exact Or.inr ⟨bi b1, j1, q1, c1, rfl, hj, hq1, hc1, sg1, bi_b _, ⟨na.1, na.2, t⟩, b1, rfl, so1⟩
  unfold f_X4_readEither_G
  rw [cv_408 J]
  rcases hA j q c hq hjT0 with ⟨f, j', C', v, hf, hj', hfr, se⟩ | ⟨d1, j1, q1, c1, v, hj1, hq1, hc1, sg1, bd1, na, b1, eb1, so1⟩
  · rw [v, fcall_some, if_pos rfl]
    exact Or.inl ⟨f, j', C', rfl, hf, hj', hfr, fun s P hP hc => se s P (by omega) (eitPc' hc)⟩
  · subst eb1
    rw [v, fcall_some, if_neg (by decide)]
    refine loop jN 0 j1 q1 c1 b1 (by unfold jN; omega) (by omega) hj1 hq1 hc1 (Seg_h sg1 (by omega)) na (fun s P hP hc => ?_)
    obtain ⟨s', Q, k', hQ, hcm, hE, hR⟩ := so1 s P (by omega) (eitPc' hc)
    exact ⟨s', Q, k', fun p hp => by have := hQ p hp; omega, hcm, hE, hR⟩
end JB
