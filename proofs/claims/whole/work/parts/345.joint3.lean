-- asks
section JA
variable {x : Nat} {S : jSt} {C : Nat → Nat → Int} {tk : Nat → Nat} {tv : Nat → Int} {law T : Nat}
theorem hd_cons {P : List Nat} {a : Nat} (h : hd P = a) (ha : a ≠ 99) : ∃ R, P = a :: R := by
  cases P with
  | nil => exact absurd h.symm ha
  | cons o R => exact ⟨R, by rw [show o = a from h]⟩
theorem rk_0 {o : Nat} (h : 1 ≤ rk o) : o < 40 := by
  unfold rk at h
  by_cases q : 40 ≤ o
  · rw [if_pos q] at h; omega
  · omega
theorem askP_s {P : List Nat} (h : askP P) : asks P = true ∧ (rk (hd P) ≤ 3 ∧ hd P ≠ 41) ∧ cmpd P = false := by
  obtain ⟨h1, h2⟩ := h
  refine ⟨?_, ?_, ?_⟩
  · unfold asks
    refine decide_eq_true ⟨h1, ?_⟩
    rcases h2 with h2 | h2
    · left; omega
    · right; exact h2
  · rcases h2 with h2 | h2
    · rw [h2]; decide
    · refine ⟨h2.2, fun q => ?_⟩
      have := rk_0 h2.1
      omega
  · cases P with
    | nil => rfl
    | cons o R =>
      have e : rk o ≤ 3 := by
        rcases h2 with h2 | h2
        · rw [show o = 42 from h2]; decide
        · exact h2.2
      rw [cmpd, if_neg (by omega)]
      exact decide_eq_false (by omega)
theorem begO_n {j : Nat} (s : SS) {P : List Nat} (k : Nat) (h : tk j = 25) (hP : askP P) : begO tk tv law j s P k = opd 20 j s P k := by
  unfold begO
  rw [if_neg (by omega), if_neg (by omega), if_neg (by omega), if_neg (by omega), if_neg (by omega), if_neg (by omega), if_neg (by omega), if_pos ⟨h, (askP_s hP).1⟩]
theorem opn_c {o : Nat} (h : o < 40) (P : List Nat) : opn (o :: P) = opn P := by
  rw [opn, if_neg (by omega)]
theorem rk_cm {o : Nat} (h : 10 ≤ o ∧ o ≤ 15) : rk o = 4 := by
  unfold rk
  rw [if_neg (by omega), if_neg (by omega), if_neg (by omega), if_neg (by omega), if_pos h.1]
theorem ems_cm {o k : Nat} (ho : 10 ≤ o ∧ o ≤ 15) (d1 d2 : Den) (v : List Den) (t : List BDen) : ems [o] (d2 :: d1 :: v, t) k = some ((v, (fun e w => cm2 o (d1 e w) (d2 e w)) :: t), k) := by
  have : o = 10 ∨ o = 11 ∨ o = 12 ∨ o = 13 ∨ o = 14 ∨ o = 15 := by omega
  rcases this with rfl | rfl | rfl | rfl | rfl | rfl <;> rfl
theorem jn2_cm {o : Nat} (ho : 10 ≤ o ∧ o ≤ 15) (a b : Int) : jn2 ((o + 21 : Nat) : Int) a b = if cm2 o a b = true then 1 else 0 := by
  unfold jn2
  rw [if_neg (by omega), if_neg (by omega), if_neg (by omega), if_neg (by omega), show (((o + 21 : Nat) : Int) - 21).toNat = o by omega]
theorem bi_b (b : BDen) : Bd (bi b) := fun e w _ => by
  unfold bi
  split <;> omega
theorem Rn_cm {o j k k1 : Nat} {s s1 : SS} {P Q : List Nat} {r : Except (Nat × Nat) MS} (ho : 10 ≤ o ∧ o ≤ 15) (t : tk j = o + 21) (hP : askP P) (hQ : ∀ p ∈ Q, 5 ≤ rk p ∧ rk p ≤ 6) (hE : ems Q s k = some (s1, k1)) (hl : P.length < 150) (hT : j ≤ T) (h : Rn tk tv law T (j + 1, s1, o :: P, k1, false) r) : Rn tk tv law T (j, s, Q ++ P, k, true) r := by
  refine Rn_go ?_ (Nat.lt_succ_self j) hT h
  obtain ⟨a1, a2, a3⟩ := askP_s hP
  have eb : btw (tk j) (Q ++ P) = o := by
    unfold btw
    rw [if_neg (by omega), if_neg (by omega), if_neg (by omega), if_neg (by omega), opn_app Q P (fun p hp => by have := hQ p hp; omega), hP.1, if_neg (by decide), cmpd_app Q P (fun p hp => by have := hQ p hp; omega), a3, if_pos (by decide), if_pos (by omega)]
    omega
  rw [pst_t]
  unfold beh
  rw [eb, if_pos (by omega), rk_cm ho, if_pos rfl, stl_app 5 (by omega) Q (fun p hp => (hQ p hp).1) hE]
  show (if 150 ≤ P.length then _ else _) = _
  rw [if_neg (by omega)]
theorem Rn_bad {j k : Nat} {s : SS} {P : List Nat} (hb : btw (tk j) P = 0) (hp : prt (opn P) (tk j) P = 99) (ho : opn P ≠ 0) (hT : j ≤ T) : Rn tk tv law T (j, s, P, k, true) (.error (1, j)) := by
  refine Rn_er ?_ hT
  rw [pst_t]
  unfold beh
  rw [hb, if_neg (by simp), if_pos hp, if_pos ho]
theorem pAsk {gA gB gE gI gO gP gS : Int → Int → jSt → Option (Int × jSt)} (I : CI x S C) (K : TKs C T tk tv) {k j q : Nat} {c : Nat → Int} (hk : k ≤ 8) (hq : q ≤ j) (hjT0 : j ≤ T)
    (hA : k < 8 → ∀ j q c, q ≤ j → j ≤ T → AskP x S C tk tv law T (k + 1) j q c (gA ((x + 408 : Nat) : Int) ((k + 1 : Nat) : Int) (cS x S (rdS C j q c))))
    (hS : ∀ j q c, q ≤ j → j ≤ T → SumP x S C tk tv law T k j q c (gS ((x + 408 : Nat) : Int) (k : Int) (cS x S (rdS C j q c)))) : AskP x S C tk tv law T k j q c (f_X4_readAsk_G gA gB gE gI gO gP gS ((x + 408 : Nat) : Int) (k : Int) (cS x S (rdS C j q c))) := by
  have hT := K.1.2
  have J := rdS_CI I j q c
  unfold f_X4_readAsk_G f_X4_readAsk_b120 f_X4_readAsk_b121 f_X4_readAsk_b55 f_X4_readAsk_b56
  rw [cv_408 J, k_kind I K, fcall_some]
  by_cases t25 : tk j = 25
  · have hjT : j < T := lt_T K (by omega)
    rw [if_pos (by omega)]
    by_cases hk8 : k = 8
    · subst hk8
      obtain ⟨C', v, hf⟩ := k_ref I K 3 j q c
      rw [if_neg (by omega), cv_408 J, show (3 : Int) = ((3 : Nat) : Int) from rfl, v, fcall_some]
      exact Or.inl ⟨3, j, C', rfl, hf, by omega, by omega, fun s P _ hP => Rn_full (begO_n s 8 t25 hP) (by omega)⟩
    have k8 : k < 8 := by omega
    have op : ∀ (s : SS) (P : List Nat) (r : Except (Nat × Nat) MS), P.length ≤ 6 * k + 2 → askP P → Rn tk tv law T (j + 1, s, 20 :: P, k + 1, false) r → Rn tk tv law T (j, s, P, k, false) r := fun s P r hP ha h => Rn_open (begO_n s k t25 ha) k8 (by omega) (by omega) h
    have ap : ∀ P, askP P → askP (20 :: P) := fun P ha => ⟨by rw [opn_c (by decide)]; exact ha.1, Or.inr ⟨show 1 ≤ rk 20 by decide, show rk 20 ≤ 3 by decide⟩⟩
    have J1 := rdS_CI I (j + 1) q c
    rw [if_pos (by omega), k_adv I (by omega), cv_408 J1, w32_of (by omega) (by omega), zs]
    rcases hA k8 (j + 1) q c (by omega) (by omega) with ⟨f, j', C', v, hf, hj', hfr, se⟩ | ⟨d1, j1, q1, c1, v, hj1, hq1, hc1, sg1, bd1, na, b, eb, so1⟩
    · rw [v, fcall_some, if_pos rfl]
      exact Or.inl ⟨f, j', C', rfl, hf, hj', hfr, fun s P hP ha => op s P _ hP ha (se s (20 :: P) (by rw [List.length_cons]; omega) (ap P ha))⟩
    · subst eb
      have J2 := rdS_CI I j1 q1 c1
      rw [v, fcall_some, if_neg (by decide), cv_408 J2, k_emit I (by omega) (by omega) (by omega), fcall_some, if_neg (by decide)]
      have l1 := sg1.1.1
      refine Or.inr ⟨bi (fun e w => !b e w), j1, q1 + 1, _, rfl, by omega, by omega, fun i hi => ?_, ?_, bi_b _, na, _, rfl, fun s P hP ha => ?_⟩
      · rw [va_up_ne _ _ (by omega), hc1 i hi]
      · have s1 : Seg (va_up c1 q1 (25 * 16384 + 0)) q q1 (bi b) _ := Seg_c sg1 (fun i h1 h2 => by rw [va_up_ne _ _ (by omega)])
        refine Seg_h (Seg_d (Seg_un s1 (k := 25) (Or.inr (Or.inl rfl)) (va_up_self _ _ _)) (fun e w _ => ?_)) (by omega)
        show bi (fun e w => !b e w) e w = jn1 25 w (bi b e w)
        unfold bi jn1
        cases h : b e w <;> simp [h]
      · obtain ⟨s', Q, k', hQ, hc, hE, hR⟩ := so1 s (20 :: P) (by rw [List.length_cons]; omega) (ap P ha)
        refine ⟨s', Q ++ [20], k', fun p hp => ?_, by rw [List.append_assoc]; exact hc, ems_app Q [20] hE rfl, fun r h => op s P r hP ha (hR r (by rw [List.append_assoc] at h; exact h))⟩
        rw [List.mem_append, List.mem_singleton] at hp
        rcases hp with hp | hp
        · exact hQ p hp
        · rw [hp]; decide
  · rw [if_neg (by omega), cv_408 J]
    rcases hS j q c hq hjT0 with ⟨f, j', C', v, hf, hj', hfr, se⟩ | ⟨d1, j1, q1, c1, v, hj1, hq1, hc1, sg1, bd1, na, so1⟩
    · rw [v, fcall_some, if_pos rfl]
      refine Or.inl ⟨f, j', C', rfl, hf, hj', hfr, fun s P hP ha => ?_⟩
      obtain ⟨a1, a2, a3⟩ := askP_s ha
      exact se s P (by omega) ⟨⟨by omega, a2.2⟩, fun z => absurd z t25⟩
    · have J1 := rdS_CI I j1 q1 c1
      rw [v, fcall_some, if_neg (by decide), cv_408 J1, k_kind I K, fcall_some, s_within, fcall_some, if_b01]
      by_cases tc : 31 ≤ tk j1 ∧ tk j1 ≤ 36
      · have hj1T : j1 < T := lt_T K (by omega)
        obtain ⟨o, ho, to⟩ : ∃ o, (10 ≤ o ∧ o ≤ 15) ∧ tk j1 = o + 21 := ⟨tk j1 - 21, by omega, by omega⟩
        have ro := rk_cm ho
        have J2 := rdS_CI I (j1 + 1) q1 c1
        rw [if_pos (by omega), k_adv I (by omega), cv_408 J2]
        rcases hS (j1 + 1) q1 c1 (by omega) (by omega) with ⟨f, j', C', v, hf, hj', hfr, se⟩ | ⟨d2, j2, q2, c2, v, hj2, hq2, hc2, sg2, bd2, na2, so2⟩
        · rw [v, fcall_some, if_pos rfl]
          refine Or.inl ⟨f, j', C', rfl, hf, hj', hfr, fun s P hP ha => ?_⟩
          obtain ⟨a1, a2, a3⟩ := askP_s ha
          obtain ⟨s', Q, hQ, hE, hR⟩ := so1 s P (by omega) ⟨by omega, a2.2⟩
          exact hR _ (Rn_cm ho to ha hQ hE (by omega) (by omega) (se _ (o :: P) (by rw [List.length_cons]; omega) ⟨lowh (by omega) (by omega), fun _ => asks_r (by omega) (by omega)⟩))
        · have J3 := rdS_CI I j2 q2 c2
          rw [v, fcall_some, if_neg (by decide), cv_408 J3, k_emit I (by omega) (by omega) (by omega), fcall_some, if_neg (by decide)]
          have l1 := sg1.1.1
          have l2 := sg2.1.1
          refine Or.inr ⟨bi (fun e w => cm2 o (d1 e w) (d2 e w)), j2, q2 + 1, _, rfl, by omega, by omega, fun i hi => ?_, ?_, bi_b _, na2, _, rfl, fun s P hP ha => ?_⟩
          · rw [va_up_ne _ _ (by omega), hc2 i (by omega), hc1 i hi]
          · have s1 : Seg (va_up c2 q2 ((tk j1 : Int) * 16384 + 0)) q q1 d1 _ := Seg_c sg1 (fun i h1 h2 => by rw [va_up_ne _ _ (by omega), hc2 i (by omega)])
            have s2 : Seg (va_up c2 q2 ((tk j1 : Int) * 16384 + 0)) q1 q2 d2 _ := Seg_c sg2 (fun i h1 h2 => by rw [va_up_ne _ _ (by omega)])
            refine Seg_h (Seg_d (Seg_bin s1 s2 (k := (tk j1 : Int)) (by omega) (va_up_self _ _ _)) (fun e w _ => ?_)) (by omega)
            show _ = jn2 (tk j1 : Int) _ _
            rw [to, jn2_cm ho]
            rfl
          · obtain ⟨a1, a2, a3⟩ := askP_s ha
            obtain ⟨s', Q, hQ, hE, hR⟩ := so1 s P (by omega) ⟨by omega, a2.2⟩
            obtain ⟨s2, Q2, hQ2, hE2, hR2⟩ := so2 (d1 :: s.1, s.2) (o :: P) (by rw [List.length_cons]; omega) (lowh (by omega) (by omega))
            refine ⟨s2, Q2 ++ [o], k, fun p hp => ?_, ?_, ems_app Q2 [o] hE2 (ems_cm ho d1 d2 s.1 s.2), fun r h => hR r (Rn_cm ho to ha hQ hE (by omega) (by omega) (hR2 r (by rw [List.append_assoc] at h; exact h)))⟩
            · rw [List.mem_append, List.mem_singleton] at hp
              rcases hp with hp | hp
              · have := hQ2 p hp; omega
              · rw [hp]; omega
            · rw [List.append_assoc, cmpd_app Q2 _ (fun p hp => by have := hQ2 p hp; omega)]
              show cmpd (o :: P) = true
              rw [cmpd, if_neg (by omega)]
              exact decide_eq_true ro
      · obtain ⟨C', v2, hf⟩ := k_ref I K 1 j1 q1 c1
        rw [if_neg (by omega), cv_408 J1, show (1 : Int) = ((1 : Nat) : Int) from rfl, v2, fcall_some]
        refine Or.inl ⟨1, j1, C', rfl, hf, hj1.2, by omega, fun s P hP ha => ?_⟩
        obtain ⟨a1, a2, a3⟩ := askP_s ha
        obtain ⟨s', Q, hQ, hE, hR⟩ := so1 s P (by omega) ⟨by omega, a2.2⟩
        have eo : opn (Q ++ P) = 42 := by rw [opn_app Q P (fun p hp => by have := hQ p hp; omega)]; exact ha.1
        have ec : cmpd (Q ++ P) = false := by rw [cmpd_app Q P (fun p hp => by have := hQ p hp; omega)]; exact a3
        have eb : btw (tk j1) (Q ++ P) = 0 := by
          unfold btw
          rw [if_neg na.1, if_neg na.2.1, if_neg na.2.2.1, if_neg na.2.2.2, eo, if_neg (by decide), ec, if_pos (by decide), if_neg tc]
        refine hR _ (Rn_bad eb ?_ (by omega) (by omega))
        unfold prt
        rw [eo, if_neg (by decide), if_pos rfl, ec, if_neg (by simp)]
end JA
