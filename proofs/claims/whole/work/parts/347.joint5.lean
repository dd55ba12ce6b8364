section JI
variable {x : Nat} {S : jSt} {C : Nat → Nat → Int} {tk : Nat → Nat} {tv : Nat → Int} {law T : Nat}
/-- a part of an if is over: the next begins -/
theorem Rn_part {j k k' o o' : Nat} {s s1 : SS} {P Q : List Nat} {r : Except (Nat × Nat) MS} (ho : 40 ≤ o) (ho' : o' ≠ 99 ∧ o' ≠ 0) (hQ : ∀ p ∈ Q, 1 ≤ rk p ∧ rk p ≤ 6) (hb : btw (tk j) (Q ++ o :: P) = 0) (hp : prt o (tk j) (Q ++ o :: P) = o') (hE : ems Q s k' = some (s1, k)) (hT : j ≤ T) (h : Rn tk tv law T (j + 1, s1, o' :: P, k, false) r) : Rn tk tv law T (j, s, Q ++ o :: P, k', true) r := by
  refine Rn_go ?_ (Nat.lt_succ_self j) hT h
  have eo : opn (Q ++ o :: P) = o := by
    rw [opn_app Q _ (fun p hp => by have := hQ p hp; omega), opn, if_pos ho]
  have r0 : rk o = 0 := by unfold rk; rw [if_pos ho]
  rw [pst_t]
  unfold beh
  rw [hb, eo, hp, if_neg (by simp), if_neg ho'.1, stl_app 1 (P := o :: P) (show rk o < 1 by omega) Q (fun p hp => (hQ p hp).1) hE]
  show (if o' = 0 then _ else Except.ok (false, (j + 1, s1, setO o' (o :: P), k, false))) = _
  rw [if_neg ho'.2, setO, if_pos ho]
theorem btw_43 {o t : Nat} {P Q : List Nat} (ho : 40 ≤ o ∧ o ≠ 42) (hQ : ∀ p ∈ Q, 1 ≤ rk p ∧ rk p ≤ 6) (na : noAr t) : btw t (Q ++ o :: P) = 0 ∧ opn (Q ++ o :: P) = o := by
  have eo : opn (Q ++ o :: P) = o := by
    rw [opn_app Q _ (fun p hp => by have := hQ p hp; omega), opn, if_pos ho.1]
  refine ⟨?_, eo⟩
  unfold btw
  rw [if_neg na.1, if_neg na.2.1, if_neg na.2.2.1, if_neg na.2.2.2, eo, if_pos ho.2]
theorem pIf {gA gB gE gI gO gP gS : Int → Int → jSt → Option (Int × jSt)} (I : CI x S C) (K : TKs C T tk tv) {k j q : Nat} {c : Nat → Int} (hk : k ≤ 8) (hk1 : 1 ≤ k) (hq : q ≤ j) (hjT0 : j ≤ T)
    (hE : ∀ j q c, q ≤ j → j ≤ T → EitP x S C tk tv law T k j q c (gE ((x + 408 : Nat) : Int) (k : Int) (cS x S (rdS C j q c))))
    (hS : ∀ j q c, q ≤ j → j ≤ T → SumP x S C tk tv law T k j q c (gS ((x + 408 : Nat) : Int) (k : Int) (cS x S (rdS C j q c)))) : IfP x S C tk tv law T k j q c (f_X4_readIf_G gA gB gE gI gO gP gS ((x + 408 : Nat) : Int) (k : Int) (cS x S (rdS C j q c))) := by
  have hT := K.1.2
  have J := rdS_CI I j q c
  unfold f_X4_readIf_G f_X4_readIf_b17 f_X4_readIf_b49 f_X4_readIf_b86
  rw [cv_408 J]
  rcases hE j q c hq hjT0 with ⟨f, j', C', v, hf, hj', hfr, se⟩ | ⟨d0, j1, q1, c1, v, hj1, hq1, hc1, sg0, _, na, b, eb, so1⟩
  · rw [v, fcall_some, if_pos rfl]
    exact Or.inl ⟨f, j', C', rfl, hf, hj', hfr, fun s P hP => se s (42 :: P) (by rw [List.length_cons]; omega) rfl⟩
  subst eb
  have J1 := rdS_CI I j1 q1 c1
  rw [v, fcall_some, if_neg (by decide), cv_408 J1]
  -- the machine when EITHER is read
  have m1 : ∀ (s : SS) (P : List Nat), P.length + 1 ≤ 6 * k → ∃ (s' : SS) (Q : List Nat) (k' : Nat), (∀ p ∈ Q, 1 ≤ rk p ∧ rk p ≤ 6) ∧ cmpd (Q ++ 42 :: P) = true ∧ btw (tk j1) (Q ++ 42 :: P) = 0 ∧ opn (Q ++ 42 :: P) = 42 ∧ ems Q s' k' = some ((s.1, b :: s.2), k) ∧ ∀ r, Rn tk tv law T (j1, s', Q ++ 42 :: P, k', true) r → Rn tk tv law T (j, s, 42 :: P, k, false) r := fun s P hP => by
    obtain ⟨s', Q, k', hQ, hcm, hEm, hR⟩ := so1 s (42 :: P) (by rw [List.length_cons]; omega) rfl
    have eo : opn (Q ++ 42 :: P) = 42 := by
      rw [opn_app Q _ (fun p hp => by have := hQ p hp; omega)]
      rfl
    refine ⟨s', Q, k', hQ, hcm, ?_, eo, hEm, hR⟩
    unfold btw
    rw [if_neg na.1.1, if_neg na.1.2.1, if_neg na.1.2.2.1, if_neg na.1.2.2.2, eo, hcm, if_neg (by decide), if_neg (by decide), if_neg na.2.1, if_neg na.2.2]
  rcases k_rk I K 21 j1 q1 c1 (by omega) with ⟨t21, v2⟩ | ⟨t21, C', v2, hf⟩
  rotate_left
  · rw [show (21 : Int) = ((21 : Nat) : Int) from rfl, v2, fcall_some, if_pos rfl]
    refine Or.inl ⟨1, j1, C', rfl, hf, hj1.2, by omega, fun s P hP => ?_⟩
    obtain ⟨s', Q, k', hQ, hcm, hb, ho, hEm, hR⟩ := m1 s P hP
    refine hR _ (Rn_bad hb ?_ (by omega) (by omega))
    unfold prt
    rw [ho, if_neg (by decide), if_pos rfl, if_neg (fun z => t21 z.1)]
  have hj1T : j1 < T := lt_T K (by omega)
  have J2 := rdS_CI I (j1 + 1) q1 c1
  have J2' := rdS_CI I (j1 + 1) (q1 + 1) (va_up c1 q1 (21 * 16384 + 0))
  rw [show ((21 : Int)) = ((21 : Nat) : Int) from rfl, v2, fcall_some, if_neg (by decide), cg_408 J2, rd_86, cv_408 J2, show ((21 : Nat) : Int) = 21 from rfl, k_emit I (by omega) (by omega) (by omega), fcall_some, cv_408 J2']
  have m2 : ∀ (s : SS) (P : List Nat) (r : Except (Nat × Nat) MS), P.length + 1 ≤ 6 * k → Rn tk tv law T (j1 + 1, (s.1, b :: s.2), 43 :: P, k, false) r → Rn tk tv law T (j, s, 42 :: P, k, false) r := fun s P r hP h => by
    obtain ⟨s', Q, k', hQ, hcm, hb, ho, hEm, hR⟩ := m1 s P hP
    refine hR _ (Rn_part (by decide) (by decide) hQ hb ?_ hEm (by omega) h)
    unfold prt
    rw [if_neg (by decide), if_pos rfl, if_pos ⟨t21, hcm⟩]
  rcases hS (j1 + 1) (q1 + 1) (va_up c1 q1 (21 * 16384 + 0)) (by omega) (by omega) with ⟨f, j', C', v, hf, hj', hfr, se⟩ | ⟨d1, j2, q3, c3, v, hj2, hq3, hc3, sg1, bd1, na2, so2⟩
  · rw [v, fcall_some, if_pos rfl]
    exact Or.inl ⟨f, j', C', rfl, hf, hj', hfr, fun s P hP => m2 s P _ hP (se _ (43 :: P) (by rw [List.length_cons]; omega) ⟨lowh (by decide) (by decide), fun _ => asks_o ⟨by decide, by decide⟩⟩)⟩
  have J3 := rdS_CI I j2 q3 c3
  rw [v, fcall_some, if_neg (by decide), cv_408 J3]
  have m3 : ∀ (s : SS) (P : List Nat), P.length + 1 ≤ 6 * k → ∃ (s' : SS) (Q : List Nat), (∀ p ∈ Q, 1 ≤ rk p ∧ rk p ≤ 6) ∧ btw (tk j2) (Q ++ 43 :: P) = 0 ∧ opn (Q ++ 43 :: P) = 43 ∧ ems Q s' k = some ((d1 :: s.1, b :: s.2), k) ∧ ∀ r, Rn tk tv law T (j2, s', Q ++ 43 :: P, k, true) r → Rn tk tv law T (j, s, 42 :: P, k, false) r := fun s P hP => by
    obtain ⟨s', Q, hQ, hEm, hR⟩ := so2 (s.1, b :: s.2) (43 :: P) (by rw [List.length_cons]; omega) (lowh (by decide) (by decide))
    have hQ' : ∀ p ∈ Q, 1 ≤ rk p ∧ rk p ≤ 6 := fun p hp => by have := hQ p hp; omega
    obtain ⟨z1, z2⟩ := btw_43 (o := 43) (P := P) (by decide) hQ' na2
    exact ⟨s', Q, hQ', z1, z2, hEm, fun r h => m2 s P r hP (hR r h)⟩
  rcases k_rk I K 22 j2 q3 c3 (by omega) with ⟨t22, v2⟩ | ⟨t22, C', v2, hf⟩
  rotate_left
  · rw [show (22 : Int) = ((22 : Nat) : Int) from rfl, v2, fcall_some, if_pos rfl]
    refine Or.inl ⟨1, j2, C', rfl, hf, hj2.2, by omega, fun s P hP => ?_⟩
    obtain ⟨s', Q, hQ, hb, ho, hEm, hR⟩ := m3 s P hP
    refine hR _ (Rn_bad hb ?_ (by omega) (by omega))
    unfold prt
    rw [ho, if_neg (by decide), if_neg (by decide), if_pos rfl, if_neg t22]
  have hj2T : j2 < T := lt_T K (by omega)
  have l0 := sg0.1.1
  have l1 := sg1.1.1
  have J4 := rdS_CI I (j2 + 1) q3 c3
  have J4' := rdS_CI I (j2 + 1) (q3 + 1) (va_up c3 q3 (22 * 16384 + 0))
  have e3 : va_up c3 q3 (22 * 16384 + 0) q1 = 21 * 16384 + 0 := by
    rw [va_up_ne _ _ (by omega), hc3 q1 (by omega), va_up_self]
  rw [show ((22 : Int)) = ((22 : Nat) : Int) from rfl, v2, fcall_some, if_neg (by decide), cg_408 J4, rd_86, cv_408 J4, show ((22 : Nat) : Int) = 22 from rfl, k_emit I (by omega) (by omega) (by omega), fcall_some, cv_408 J4', k_aim I (by omega) (by omega) (by rw [e3]; decide), fcall_some, e3]
  generalize hc4 : va_up (va_up c3 q3 (22 * 16384 + 0)) q1 (21 * 16384 + 0 + ((q3 + 1 : Nat) : Int)) = c4 at *
  have J5 := rdS_CI I (j2 + 1) (q3 + 1) c4
  rw [cv_408 J5]
  have f4 : ∀ i, i ≠ q1 → i ≠ q3 → c4 i = c3 i := fun i h1 h2 => by rw [← hc4, va_up_ne _ _ h1, va_up_ne _ _ h2]
  have e41 : c4 q1 = 21 * 16384 + ((q3 + 1 : Nat) : Int) := by rw [← hc4, va_up_self, Int.add_zero]
  have e43 : c4 q3 = 22 * 16384 + 0 := by rw [← hc4, va_up_ne _ _ (by omega), va_up_self]
  have m4 : ∀ (s : SS) (P : List Nat) (r : Except (Nat × Nat) MS), P.length + 1 ≤ 6 * k → Rn tk tv law T (j2 + 1, (d1 :: s.1, b :: s.2), 44 :: P, k, false) r → Rn tk tv law T (j, s, 42 :: P, k, false) r := fun s P r hP h => by
    obtain ⟨s', Q, hQ, hb, ho, hEm, hR⟩ := m3 s P hP
    refine hR _ (Rn_part (by decide) (by decide) hQ hb ?_ hEm (by omega) h)
    unfold prt
    rw [if_neg (by decide), if_neg (by decide), if_pos rfl, if_pos t22]
  rcases hS (j2 + 1) (q3 + 1) c4 (by omega) (by omega) with ⟨f, j', C', v, hf, hj', hfr, se⟩ | ⟨d2, j3, q5, c5, v, hj3, hq5, hc5, sg2, bd2, na3, so3⟩
  · rw [v, fcall_some, if_pos rfl]
    exact Or.inl ⟨f, j', C', rfl, hf, hj', hfr, fun s P hP => m4 s P _ hP (se _ (44 :: P) (by rw [List.length_cons]; omega) ⟨lowh (by decide) (by decide), fun _ => asks_o ⟨by decide, by decide⟩⟩)⟩
  have J6 := rdS_CI I j3 q5 c5
  rw [v, fcall_some, if_neg (by decide), cv_408 J6]
  have m5 : ∀ (s : SS) (P : List Nat), P.length + 1 ≤ 6 * k → ∃ (s' : SS) (Q : List Nat), (∀ p ∈ Q, 1 ≤ rk p ∧ rk p ≤ 6) ∧ btw (tk j3) (Q ++ 44 :: P) = 0 ∧ opn (Q ++ 44 :: P) = 44 ∧ ems Q s' k = some ((d2 :: d1 :: s.1, b :: s.2), k) ∧ ∀ r, Rn tk tv law T (j3, s', Q ++ 44 :: P, k, true) r → Rn tk tv law T (j, s, 42 :: P, k, false) r := fun s P hP => by
    obtain ⟨s', Q, hQ, hEm, hR⟩ := so3 (d1 :: s.1, b :: s.2) (44 :: P) (by rw [List.length_cons]; omega) (lowh (by decide) (by decide))
    have hQ' : ∀ p ∈ Q, 1 ≤ rk p ∧ rk p ≤ 6 := fun p hp => by have := hQ p hp; omega
    obtain ⟨z1, z2⟩ := btw_43 (o := 44) (P := P) (by decide) hQ' na3
    exact ⟨s', Q, hQ', z1, z2, hEm, fun r h => m4 s P r hP (hR r h)⟩
  rcases k_rk I K 23 j3 q5 c5 (by omega) with ⟨t23, v2⟩ | ⟨t23, C', v2, hf⟩
  rotate_left
  · rw [show (23 : Int) = ((23 : Nat) : Int) from rfl, v2, fcall_some, if_pos rfl]
    refine Or.inl ⟨1, j3, C', rfl, hf, hj3.2, by omega, fun s P hP => ?_⟩
    obtain ⟨s', Q, hQ, hb, ho, hEm, hR⟩ := m5 s P hP
    refine hR _ (Rn_bad hb ?_ (by omega) (by omega))
    unfold prt
    rw [ho, if_neg (by decide), if_neg (by decide), if_neg (by decide), if_pos rfl, if_neg t23]
  have hj3T : j3 < T := lt_T K (by omega)
  have l2 := sg2.1.1
  have J7 := rdS_CI I (j3 + 1) q5 c5
  have e5 : c5 q3 = 22 * 16384 + 0 := by rw [hc5 q3 (by omega), e43]
  rw [show ((23 : Int)) = ((23 : Nat) : Int) from rfl, v2, fcall_some, if_neg (by decide), cv_408 J7, k_aim I (by omega) (by omega) (by rw [e5]; decide), fcall_some, e5, Int.add_zero]
  refine Or.inr ⟨fun e w => if b e w = true then d1 e w else d2 e w, j3 + 1, q5, _, rfl, by omega, by omega, fun i hi => ?_, ?_, fun e w he => ?_, fun s P r hP h => ?_⟩
  · rw [va_up_ne _ _ (by omega), hc5 i (by omega), f4 i (by omega) (by omega), hc3 i (by omega), va_up_ne _ _ (by omega), hc1 i hi]
  · have s0 : Seg (va_up c5 q3 (22 * 16384 + (q5 : Int))) q q1 (bi b) _ := Seg_c sg0 (fun i h1 h2 => by rw [va_up_ne _ _ (by omega), hc5 i (by omega), f4 i (by omega) (by omega), hc3 i (by omega), va_up_ne _ _ (by omega)])
    have s1 : Seg (va_up c5 q3 (22 * 16384 + (q5 : Int))) (q1 + 1) q3 d1 _ := Seg_c sg1 (fun i h1 h2 => by rw [va_up_ne _ _ (by omega), hc5 i (by omega), f4 i (by omega) (by omega)])
    have s2 : Seg (va_up c5 q3 (22 * 16384 + (q5 : Int))) (q3 + 1) q5 d2 _ := Seg_c sg2 (fun i h1 h2 => by rw [va_up_ne _ _ (by omega)])
    refine Seg_h (Seg_d (Seg_if s0 s1 s2 (by omega) (by rw [va_up_ne _ _ (by omega), hc5 q1 (by omega), e41]) (va_up_self _ _ _)) (fun e w _ => ?_)) (by omega)
    show (if b e w = true then d1 e w else d2 e w) = if bi b e w ≠ 0 then d1 e w else d2 e w
    unfold bi
    cases hb : b e w <;> simp
  · show -1000000 ≤ (if b e w = true then d1 e w else d2 e w) ∧ (if b e w = true then d1 e w else d2 e w) ≤ 1000000
    have h1 := bd1 e w he
    have h2 := bd2 e w he
    split
    · exact h1
    · exact h2
  · obtain ⟨s', Q, hQ, hb, ho, hEm, hR⟩ := m5 s P hP
    refine hR r (Rn_end (j := j3 + 1) (s := ((fun e w => if b e w = true then d1 e w else d2 e w) :: s.1, s.2)) (P := P) (k := k - 1) ?_ (Nat.lt_succ_self j3) (by show j3 ≤ T; omega) h)
    have hp : prt 44 (tk j3) (Q ++ 44 :: P) = 0 := by
      unfold prt
      rw [if_neg (by decide), if_neg (by decide), if_neg (by decide), if_pos rfl, if_pos t23]
    rw [pst_t]
    unfold beh
    rw [hb, ho, hp, if_neg (by simp), if_neg (by decide), stl_app 1 (P := 44 :: P) (show rk 44 < 1 by decide) Q (fun p hp => (hQ p hp).1) hEm]
    show fls (clo tk j3 44 (d2 :: d1 :: s.1, b :: s.2) (44 :: P) k) = _
    unfold clo
    rw [if_neg (by simp; omega), if_pos rfl]
    rfl
end JI
/-- all that is read of a law, by the depth of the calls -/
theorem grpR {x : Nat} {S : jSt} {C : Nat → Nat → Int} {tk : Nat → Nat} {tv : Nat → Int} {law T : Nat} (I : CI x S C) (K : TKs C T tk tv) (hl : C 408 4 = (law : Int) + 1) : ∀ n k : Nat, k ≤ 8 →
    (4 + 7 * (8 - k) ≤ n → ∀ j q c, q ≤ j → j ≤ T → AskP x S C tk tv law T k j q c ((grp_X4_readAsk n).1 ((x + 408 : Nat) : Int) (k : Int) (cS x S (rdS C j q c)))) ∧
    (5 + 7 * (8 - k) ≤ n → ∀ j q c, q ≤ j → j ≤ T → BotP x S C tk tv law T k j q c ((grp_X4_readAsk n).2.1 ((x + 408 : Nat) : Int) (k : Int) (cS x S (rdS C j q c)))) ∧
    (6 + 7 * (8 - k) ≤ n → ∀ j q c, q ≤ j → j ≤ T → EitP x S C tk tv law T k j q c ((grp_X4_readAsk n).2.2.1 ((x + 408 : Nat) : Int) (k : Int) (cS x S (rdS C j q c)))) ∧
    (7 + 7 * (8 - k) ≤ n → 1 ≤ k → ∀ j q c, q ≤ j → j ≤ T → IfP x S C tk tv law T k j q c ((grp_X4_readAsk n).2.2.2.1 ((x + 408 : Nat) : Int) (k : Int) (cS x S (rdS C j q c)))) ∧
    (1 + 7 * (8 - k) ≤ n → ∀ j q c, q ≤ j → j ≤ T → OneP x S C tk tv law T k j q c ((grp_X4_readAsk n).2.2.2.2.1 ((x + 408 : Nat) : Int) (k : Int) (cS x S (rdS C j q c)))) ∧
    (2 + 7 * (8 - k) ≤ n → ∀ j q c, q ≤ j → j ≤ T → ProP x S C tk tv law T k j q c ((grp_X4_readAsk n).2.2.2.2.2.1 ((x + 408 : Nat) : Int) (k : Int) (cS x S (rdS C j q c)))) ∧
    (3 + 7 * (8 - k) ≤ n → ∀ j q c, q ≤ j → j ≤ T → SumP x S C tk tv law T k j q c ((grp_X4_readAsk n).2.2.2.2.2.2 ((x + 408 : Nat) : Int) (k : Int) (cS x S (rdS C j q c)))) := by
  intro n
  induction n with
  | zero =>
    intro k hk
    refine ⟨?_, ?_, ?_, ?_, ?_, ?_, ?_⟩ <;> (intro h; omega)
  | succ n ih =>
    intro k hk
    have e : grp_X4_readAsk (n + 1) = (fun g => (f_X4_readAsk_G g.1 g.2.1 g.2.2.1 g.2.2.2.1 g.2.2.2.2.1 g.2.2.2.2.2.1 g.2.2.2.2.2.2, f_X4_readBoth_G g.1 g.2.1 g.2.2.1 g.2.2.2.1 g.2.2.2.2.1 g.2.2.2.2.2.1 g.2.2.2.2.2.2, f_X4_readEither_G g.1 g.2.1 g.2.2.1 g.2.2.2.1 g.2.2.2.2.1 g.2.2.2.2.2.1 g.2.2.2.2.2.2, f_X4_readIf_G g.1 g.2.1 g.2.2.1 g.2.2.2.1 g.2.2.2.2.1 g.2.2.2.2.2.1 g.2.2.2.2.2.2, f_X4_readOne_G g.1 g.2.1 g.2.2.1 g.2.2.2.1 g.2.2.2.2.1 g.2.2.2.2.2.1 g.2.2.2.2.2.2, f_X4_readProduct_G g.1 g.2.1 g.2.2.1 g.2.2.2.1 g.2.2.2.2.1 g.2.2.2.2.2.1 g.2.2.2.2.2.2, f_X4_readSum_G g.1 g.2.1 g.2.2.1 g.2.2.2.1 g.2.2.2.2.1 g.2.2.2.2.2.1 g.2.2.2.2.2.2)) (grp_X4_readAsk n) := rfl
    rw [e]
    refine ⟨fun h j q c hq hj => ?_, fun h j q c hq hj => ?_, fun h j q c hq hj => ?_, fun h h1 j q c hq hj => ?_, fun h j q c hq hj => ?_, fun h j q c hq hj => ?_, fun h j q c hq hj => ?_⟩
    · exact pAsk I K hk hq hj (fun k8 => (ih (k + 1) (by omega)).1 (by omega)) ((ih k hk).2.2.2.2.2.2 (by omega))
    · exact pBot I K hk hq hj ((ih k hk).1 (by omega))
    · exact pEit I K hk hq hj ((ih k hk).2.1 (by omega))
    · exact pIf I K hk h1 hq hj ((ih k hk).2.2.1 (by omega)) ((ih k hk).2.2.2.2.2.2 (by omega))
    · exact pOne I K hl hk hq hj (fun k8 => (ih (k + 1) (by omega)).2.2.2.2.1 (by omega)) (fun k8 => (ih (k + 1) (by omega)).2.2.2.2.2.2 (by omega)) (fun k8 => (ih (k + 1) (by omega)).2.2.2.1 (by omega) (by omega))
    · exact pPro I K hk hq hj ((ih k hk).2.2.2.2.1 (by omega))
    · exact pSum I K hk hq hj ((ih k hk).2.2.2.2.2.1 (by omega))
