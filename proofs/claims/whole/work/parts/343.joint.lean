-- class and piles, side by side
def NumR (x : Nat) (S : jSt) (C : Nat → Nat → Int) (T j q : Nat) (c : Nat → Int) (h : Nat) (SE : Nat → Nat → Prop) (SO : Den → Nat → Prop) (o : Option (Int × jSt)) : Prop :=
  (∃ f j' C', o = some (0, cS x S C') ∧ Fail x S C f j' C' ∧ j' ≤ T ∧ (1 ≤ f ∧ f ≤ 6) ∧ SE f j') ∨
  (∃ d j' q' c', o = some (1, cS x S (rdS C j' q' c')) ∧ (j < j' ∧ j' ≤ T) ∧ q' ≤ q + (j' - j) ∧ (∀ i, i < q → c' i = c i) ∧ Seg c' q q' d h ∧ Bd d ∧ SO d j')
section PJ
variable (tk : Nat → Nat) (tv : Nat → Int) (law T : Nat)
def SEo (k j L : Nat) (CP : List Nat → Prop) (f j' : Nat) : Prop := ∀ (s : SS) (P : List Nat), P.length ≤ L → CP P → Rn tk tv law T (j, s, P, k, false) (.error (f, j'))
def SOone (k j : Nat) (d : Den) (j' : Nat) : Prop := ∀ (s : SS) (P : List Nat) (r : Except (Nat × Nat) MS), P.length ≤ 6 * k + 5 → EndR tk tv law T j' (d :: s.1, s.2) P k r → Rn tk tv law T (j, s, P, k, false) r
def SOop (k j L b lo : Nat) (d : Den) (j' : Nat) : Prop := ∀ (s : SS) (P : List Nat), P.length ≤ L → (rk (hd P) ≤ b ∧ hd P ≠ 41) → ∃ (s' : SS) (Q : List Nat), (∀ o ∈ Q, lo ≤ rk o ∧ rk o ≤ 6) ∧ ems Q s' k = some ((d :: s.1, s.2), k) ∧ ∀ r, Rn tk tv law T (j', s', Q ++ P, k, true) r → Rn tk tv law T (j, s, P, k, false) r
def SOask (k j L lo : Nat) (CP : List Nat → Prop) (b : BDen) (j' : Nat) : Prop := ∀ (s : SS) (P : List Nat), P.length ≤ L → CP P → ∃ (s' : SS) (Q : List Nat) (k' : Nat), (∀ o ∈ Q, lo ≤ rk o ∧ rk o ≤ 6) ∧ cmpd (Q ++ P) = true ∧ ems Q s' k' = some ((s.1, b :: s.2), k) ∧ ∀ r, Rn tk tv law T (j', s', Q ++ P, k', true) r → Rn tk tv law T (j, s, P, k, false) r
def SOif (k j : Nat) (d : Den) (j' : Nat) : Prop := ∀ (s : SS) (P : List Nat) (r : Except (Nat × Nat) MS), P.length + 1 ≤ 6 * k → EndR tk tv law T j' (d :: s.1, s.2) P (k - 1) r → Rn tk tv law T (j, s, 42 :: P, k, false) r
def SEif (k j : Nat) (f j' : Nat) : Prop := ∀ (s : SS) (P : List Nat), P.length + 1 ≤ 6 * k → Rn tk tv law T (j, s, 42 :: P, k, false) (.error (f, j'))
def askP (P : List Nat) : Prop := opn P = 42 ∧ (hd P = 42 ∨ (1 ≤ rk (hd P) ∧ rk (hd P) ≤ 3))
def botP (P : List Nat) : Prop := opn P = 42 ∧ (hd P = 42 ∨ rk (hd P) = 1)
def eitP (P : List Nat) : Prop := hd P = 42
def noAr (t : Nat) : Prop := t ≠ 37 ∧ t ≠ 38 ∧ t ≠ 39 ∧ t ≠ 40
end PJ
section PJ2
variable (x : Nat) (S : jSt) (C : Nat → Nat → Int) (tk : Nat → Nat) (tv : Nat → Int) (law T : Nat)
def OneP (k j q : Nat) (c : Nat → Int) (o : Option (Int × jSt)) : Prop := NumR x S C T j q c (1 + 5 * (8 - k)) (SEo tk tv law T k j (6 * k + 5) (fun P => tk j = 25 → asks P = false)) (SOone tk tv law T k j) o
def ProP (k j q : Nat) (c : Nat → Int) (o : Option (Int × jSt)) : Prop := NumR x S C T j q c (2 + 5 * (8 - k)) (SEo tk tv law T k j (6 * k + 4) (fun P => (rk (hd P) ≤ 5 ∧ hd P ≠ 41) ∧ (tk j = 25 → asks P = false))) (fun d j' => (tk j' ≠ 39 ∧ tk j' ≠ 40) ∧ SOop tk tv law T k j (6 * k + 4) 5 6 d j') o
def SumP (k j q : Nat) (c : Nat → Int) (o : Option (Int × jSt)) : Prop := NumR x S C T j q c (3 + 5 * (8 - k)) (SEo tk tv law T k j (6 * k + 3) (fun P => (rk (hd P) ≤ 4 ∧ hd P ≠ 41) ∧ (tk j = 25 → asks P = false))) (fun d j' => noAr (tk j') ∧ SOop tk tv law T k j (6 * k + 3) 4 5 d j') o
def AskP (k j q : Nat) (c : Nat → Int) (o : Option (Int × jSt)) : Prop := NumR x S C T j q c (4 + 5 * (8 - k)) (SEo tk tv law T k j (6 * k + 2) askP) (fun d j' => noAr (tk j') ∧ ∃ b, d = bi b ∧ SOask tk tv law T k j (6 * k + 2) 3 askP b j') o
def BotP (k j q : Nat) (c : Nat → Int) (o : Option (Int × jSt)) : Prop := NumR x S C T j q c (5 + 5 * (8 - k)) (SEo tk tv law T k j (6 * k + 1) botP) (fun d j' => (noAr (tk j') ∧ tk j' ≠ 29) ∧ ∃ b, d = bi b ∧ SOask tk tv law T k j (6 * k + 1) 2 botP b j') o
def EitP (k j q : Nat) (c : Nat → Int) (o : Option (Int × jSt)) : Prop := NumR x S C T j q c (6 + 5 * (8 - k)) (SEo tk tv law T k j (6 * k) eitP) (fun d j' => (noAr (tk j') ∧ tk j' ≠ 29 ∧ tk j' ≠ 28) ∧ ∃ b, d = bi b ∧ SOask tk tv law T k j (6 * k) 1 eitP b j') o
def IfP (k j q : Nat) (c : Nat → Int) (o : Option (Int × jSt)) : Prop := NumR x S C T j q c (6 + 5 * (8 - k)) (SEif tk tv law T k j) (SOif tk tv law T k j) o
end PJ2
section JL
variable {tk : Nat → Nat} {tv : Nat → Int} {law T : Nat}
theorem pst_f (j : Nat) (s : SS) (P : List Nat) (k : Nat) : pst tk tv law (j, s, P, k, false) = fls (begO tk tv law j s P k) := by
  unfold pst
  exact if_neg (show ¬ (false = true) by decide)
theorem pst_t (j : Nat) (s : SS) (P : List Nat) (k : Nat) : pst tk tv law (j, s, P, k, true) = beh tk j s P k := by
  unfold pst
  exact if_pos rfl
theorem endO_m (j : Nat) (d : Den) (v : List Den) (t : List BDen) (P : List Nat) (k : Nat) : endO tk j (d :: v, t) (5 :: P) (k + 1) = endO tk j ((fun e w => - d e w) :: v, t) P k := by
  unfold endO
  have e : stl 7 (5 :: P) (d :: v, t) (k + 1) = stl 7 P ((fun e w => - d e w) :: v, t) k := by rw [stl]; rfl
  rw [e]
theorem endO_w (j : Nat) (d : Den) (v : List Den) (t : List BDen) (P : List Nat) (k : Nat) : endO tk j (d :: v, t) (2 :: P) (k + 1) = endO tk j ((fun e w => w (d e w)) :: v, t) P k := by
  unfold endO
  have e : stl 7 (2 :: P) (d :: v, t) (k + 1) = stl 7 P ((fun e w => w (d e w)) :: v, t) k := by rw [stl]; rfl
  rw [e]
theorem endO_v (j : Nat) (d1 d2 : Den) (v : List Den) (t : List BDen) (P : List Nat) (k : Nat) : endO tk j (d2 :: d1 :: v, t) (4 :: P) (k + 1) = endO tk j ((fun e w => evn (d1 e w) (d2 e w)) :: v, t) P k := by
  unfold endO
  have e : stl 7 (4 :: P) (d2 :: d1 :: v, t) (k + 1) = stl 7 P ((fun e w => evn (d1 e w) (d2 e w)) :: v, t) k := by rw [stl]; rfl
  rw [e]
theorem endO_e (j : Nat) (s : SS) (P : List Nat) (k : Nat) : endO tk j s (41 :: P) k = if tk j = 19 then .ok (j + 1, s, 4 :: P, k, false) else .error (1, j) := by
  unfold endO
  have e : stl 7 (41 :: P) s k = some (41 :: P, s, k) := by rw [stl]; rfl
  rw [e]
  rfl
theorem endO_o (j : Nat) (s : SS) (P : List Nat) (k : Nat) (h : rk (hd P) ≤ 6) (h2 : hd P ≠ 41) : endO tk j s P k = .ok (j, s, P, k, true) := by
  unfold endO
  have e := stl_app 7 (P := P) (by omega) [] (s := s) (s' := s) (k := k) (k' := k) (fun o ho => by cases ho) rfl
  rw [List.nil_append] at e
  rw [e]
  show (if hd P = 41 then _ else _) = _
  rw [if_neg h2]
theorem Rn_open {o j : Nat} {s : SS} {P : List Nat} {k : Nat} {r : Except (Nat × Nat) MS} (hb : begO tk tv law j s P k = opd o j s P k) (hk : k < 8) (hP : P.length < 150) (hT : j ≤ T) (h : Rn tk tv law T (j + 1, s, o :: P, k + 1, false) r) : Rn tk tv law T (j, s, P, k, false) r := by
  refine Rn_go ?_ (Nat.lt_succ_self j) hT h
  rw [pst_f, hb]
  unfold opd
  rw [if_neg (by omega), if_neg (by omega)]
  rfl
theorem Rn_full {o j : Nat} {s : SS} {P : List Nat} (hb : begO tk tv law j s P 8 = opd o j s P 8) (hT : j ≤ T) : Rn tk tv law T (j, s, P, 8, false) (.error (3, j)) := by
  refine Rn_er ?_ hT
  rw [pst_f, hb]
  unfold opd
  rw [if_pos rfl]
  rfl
theorem Rn_no {j : Nat} {s : SS} {P : List Nat} {k f : Nat} (hb : begO tk tv law j s P k = .error (f, j)) (hT : j ≤ T) : Rn tk tv law T (j, s, P, k, false) (.error (f, j)) := by
  refine Rn_er ?_ hT
  rw [pst_f, hb]
  rfl
def ocd (t : Nat) : Nat := if t = 41 then 40 else if t = 38 then 5 else if t = 26 then 41 else if t = 27 then 2 else 42
theorem begO_o {j : Nat} (s : SS) (P : List Nat) (k : Nat) (h : tk j = 41 ∨ tk j = 38 ∨ tk j = 26 ∨ tk j = 27 ∨ tk j = 24) : begO tk tv law j s P k = opd (ocd (tk j)) j s P k := by
  unfold begO ocd
  rw [if_neg (by omega), if_neg (by omega)]
  by_cases h1 : tk j = 41
  · rw [if_pos h1, if_pos h1]
  · rw [if_neg h1, if_neg h1]
    by_cases h2 : tk j = 38
    · rw [if_pos h2, if_pos h2]
    · rw [if_neg h2, if_neg h2]
      by_cases h3 : tk j = 26
      · rw [if_pos h3, if_pos h3]
      · rw [if_neg h3, if_neg h3]
        by_cases h4 : tk j = 27
        · rw [if_pos h4, if_pos h4]
        · rw [if_neg h4, if_neg h4, if_pos (by omega)]
theorem asks_o {o : Nat} {P : List Nat} (h : 40 ≤ o ∧ o ≠ 42) : asks (o :: P) = false := by
  unfold asks
  rw [opn, if_pos h.1]
  exact decide_eq_false (fun q => h.2 q.1)
theorem asks_r {o : Nat} {P : List Nat} (h : o < 40) (hr : rk o = 0 ∨ 4 ≤ rk o) : asks (o :: P) = false := by
  unfold asks
  refine decide_eq_false (fun q => ?_)
  have e : hd (o :: P) = o := rfl
  rw [e] at q
  omega
theorem lowh {o b : Nat} {P : List Nat} (h : rk o ≤ b) (h2 : o ≠ 41) : rk (hd (o :: P)) ≤ b ∧ hd (o :: P) ≠ 41 := ⟨h, h2⟩
theorem ems_nil (s : SS) (k : Nat) : ems [] s k = some (s, k) := rfl
end JL
section JO
variable {x : Nat} {S : jSt} {C : Nat → Nat → Int} {tk : Nat → Nat} {tv : Nat → Int} {law T : Nat}
theorem lt_T (K : TKs C T tk tv) {j : Nat} (h : tk j ≠ 44) : j < T := by
  by_cases q : j < T
  · exact q
  · exact absurd (K.2.2 j (by omega)) h
theorem pOne69 {gA gB gE gI gO gP gS : Int → Int → jSt → Option (Int × jSt)} (I : CI x S C) (K : TKs C T tk tv) {k j q : Nat} {c : Nat → Int} (hk : k ≤ 8) (hq : q ≤ j) (hjT0 : j ≤ T)
    (hO : k < 8 → ∀ j q c, q ≤ j → j ≤ T → OneP x S C tk tv law T (k + 1) j q c (gO ((x + 408 : Nat) : Int) ((k + 1 : Nat) : Int) (cS x S (rdS C j q c))))
    (hS : k < 8 → ∀ j q c, q ≤ j → j ≤ T → SumP x S C tk tv law T (k + 1) j q c (gS ((x + 408 : Nat) : Int) ((k + 1 : Nat) : Int) (cS x S (rdS C j q c))))
    (hI : k < 8 → ∀ j q c, q ≤ j → j ≤ T → IfP x S C tk tv law T (k + 1) j q c (gI ((x + 408 : Nat) : Int) ((k + 1 : Nat) : Int) (cS x S (rdS C j q c))))
    (ht : tk j = 41 ∨ tk j = 38 ∨ tk j = 26 ∨ tk j = 27 ∨ tk j = 24) : OneP x S C tk tv law T k j q c (f_X4_readOne_b69 gA gB gE gI gO gP gS ((x + 408 : Nat) : Int) (k : Int) (tk j : Int) (cS x S (rdS C j q c))) := by
  have hjT : j < T := lt_T K (by omega)
  have hT := K.1.2
  have J := rdS_CI I j q c
  unfold f_X4_readOne_b69 f_X4_readOne_b256 f_X4_readOne_b257 f_X4_readOne_b211 f_X4_readOne_b212 f_X4_readOne_b185 f_X4_readOne_b186 f_X4_readOne_b159 f_X4_readOne_b160
  by_cases hk8 : k = 8
  · subst hk8
    obtain ⟨C', v, hf⟩ := k_ref I K 3 j q c
    rw [if_neg (by omega), cv_408 J, show (3 : Int) = ((3 : Nat) : Int) from rfl, v, fcall_some]
    exact Or.inl ⟨3, j, C', rfl, hf, by omega, by omega, fun s P _ _ => Rn_full (begO_o s P 8 ht) (by omega)⟩
  have k8 : k < 8 := by omega
  have op : ∀ (s : SS) (P : List Nat) (r : Except (Nat × Nat) MS), P.length ≤ 6 * k + 5 → Rn tk tv law T (j + 1, s, ocd (tk j) :: P, k + 1, false) r → Rn tk tv law T (j, s, P, k, false) r := fun s P r hP h => Rn_open (begO_o s P k ht) k8 (by omega) (by omega) h
  rw [if_pos (by omega), k_adv I (by omega), w32_of (by omega) (by omega), zs]
  have J1 := rdS_CI I (j + 1) q c
  by_cases h26 : tk j = 26
  · have eo : ocd (tk j) = 41 := by rw [h26]; rfl
    rw [eo] at op
    rw [if_pos (by omega), cv_408 J1]
    rcases hO k8 (j + 1) q c (by omega) (by omega) with ⟨f, j', C', v, hf, hj, hfr, se⟩ | ⟨d1, j1, q1, c1, v, hj, hq1, hc1, sg1, bd1, so1⟩
    · rw [v, fcall_some, if_pos rfl]
      exact Or.inl ⟨f, j', C', rfl, hf, hj, hfr, fun s P hP _ => op s P _ hP (se s (41 :: P) (by rw [List.length_cons]; omega) (fun _ => asks_o ⟨by decide, by decide⟩))⟩
    · have K1 := rdS_CI I j1 q1 c1
      rw [v, fcall_some, if_neg (by decide), cv_408 K1]
      rcases k_rk I K 19 j1 q1 c1 (by omega) with ⟨t19, v2⟩ | ⟨t19, C', v2, hf⟩
      · have hj1T : j1 < T := lt_T K (by omega)
        have K2 := rdS_CI I (j1 + 1) q1 c1
        rw [show (19 : Int) = ((19 : Nat) : Int) from rfl, v2, fcall_some, if_neg (by decide), cv_408 K2]
        have e19 : ∀ (s : SS) (P : List Nat) (r : Except (Nat × Nat) MS), Rn tk tv law T (j1 + 1, s, 4 :: P, k + 1, false) r → EndR tk tv law T j1 s (41 :: P) (k + 1) r := fun s P r h => by
          unfold EndR
          rw [endO_e, if_pos t19]
          exact h
        rcases hO k8 (j1 + 1) q1 c1 (by omega) (by omega) with ⟨f, j', C', v3, hf, hj', hfr, se⟩ | ⟨d2, j2, q2, c2, v3, hj2, hq2, hc2, sg2, bd2, so2⟩
        · rw [v3, fcall_some, if_pos rfl]
          exact Or.inl ⟨f, j', C', rfl, hf, hj', hfr, fun s P hP _ => op s P _ hP (so1 s (41 :: P) _ (by rw [List.length_cons]; omega) (e19 _ P _ (se _ (4 :: P) (by rw [List.length_cons]; omega) (fun _ => asks_r (by decide) (by decide)))))⟩
        · have K3 := rdS_CI I j2 q2 c2
          rw [v3, fcall_some, if_neg (by decide), cv_408 K3, k_emit I (by omega) (by omega) (by omega), fcall_some, if_neg (by decide)]
          refine Or.inr ⟨fun e w => evn (d1 e w) (d2 e w), j2, q2 + 1, _, rfl, by omega, by omega, fun i hi => ?_, ?_, ?_, ?_⟩
          · have := sg1.1.1; have := sg2.1.1
            rw [va_up_ne _ _ (by omega), hc2 i (by omega), hc1 i (by omega)]
          · have l1 := sg1.1.1; have l2 := sg2.1.1
            have s1 : Seg (va_up c2 q2 (26 * 16384 + 0)) q q1 d1 _ := Seg_c sg1 (fun i h1 h2 => by rw [va_up_ne _ _ (by omega), hc2 i (by omega)])
            have s2 : Seg (va_up c2 q2 (26 * 16384 + 0)) q1 q2 d2 _ := Seg_c sg2 (fun i h1 h2 => by rw [va_up_ne _ _ (by omega)])
            exact Seg_h (Seg_d (Seg_bin s1 s2 (k := 26) (Or.inl rfl) (va_up_self _ _ _)) (fun e w _ => rfl)) (by omega)
          · intro e w he
            exact evn_b (bd1 e w he)
          · intro s P r hP h
            refine op s P r hP (so1 s (41 :: P) r (by rw [List.length_cons]; omega) (e19 _ P _ (so2 _ (4 :: P) r (by rw [List.length_cons]; omega) ?_)))
            unfold EndR at h ⊢
            rw [endO_v]
            exact h
      · rw [show (19 : Int) = ((19 : Nat) : Int) from rfl, v2, fcall_some, if_pos rfl]
        refine Or.inl ⟨1, j1, C', rfl, hf, hj.2, by omega, fun s P hP _ => op s P _ hP (so1 s (41 :: P) _ (by rw [List.length_cons]; omega) ?_)⟩
        unfold EndR
        rw [endO_e, if_neg t19]
  rw [if_neg (by omega)]
  by_cases h27 : tk j = 27
  · have eo : ocd (tk j) = 2 := by rw [h27]; rfl
    rw [eo] at op
    rw [if_pos (by omega), cv_408 J1]
    rcases hO k8 (j + 1) q c (by omega) (by omega) with ⟨f, j', C', v, hf, hj, hfr, se⟩ | ⟨d1, j1, q1, c1, v, hj, hq1, hc1, sg1, bd1, so1⟩
    · rw [v, fcall_some, if_pos rfl]
      exact Or.inl ⟨f, j', C', rfl, hf, hj, hfr, fun s P hP _ => op s P _ hP (se s (2 :: P) (by rw [List.length_cons]; omega) (fun _ => asks_r (by decide) (by decide)))⟩
    · have K1 := rdS_CI I j1 q1 c1
      rw [v, fcall_some, if_neg (by decide), cv_408 K1, k_emit I (by omega) (by omega) (by omega), fcall_some, if_neg (by decide)]
      refine Or.inr ⟨fun e w => w (d1 e w), j1, q1 + 1, _, rfl, by omega, by omega, fun i hi => ?_, ?_, fun e w he => he.2 _, fun s P r hP h => ?_⟩
      · have := sg1.1.1
        rw [va_up_ne _ _ (by omega), hc1 i (by omega)]
      · have l1 := sg1.1.1
        have s1 : Seg (va_up c1 q1 (27 * 16384 + 0)) q q1 d1 _ := Seg_c sg1 (fun i h1 h2 => by rw [va_up_ne _ _ (by omega)])
        exact Seg_h (Seg_d (Seg_un s1 (k := 27) (Or.inr (Or.inr rfl)) (va_up_self _ _ _)) (fun e w _ => rfl)) (by omega)
      · refine op s P r hP (so1 s (2 :: P) r (by rw [List.length_cons]; omega) ?_)
        unfold EndR at h ⊢
        rw [endO_w]
        exact h
  rw [if_neg (by omega)]
  by_cases h38 : tk j = 38
  · have eo : ocd (tk j) = 5 := by rw [h38]; rfl
    rw [eo] at op
    rw [if_pos (by omega), cv_408 J1]
    rcases hO k8 (j + 1) q c (by omega) (by omega) with ⟨f, j', C', v, hf, hj, hfr, se⟩ | ⟨d1, j1, q1, c1, v, hj, hq1, hc1, sg1, bd1, so1⟩
    · rw [v, fcall_some, if_pos rfl]
      exact Or.inl ⟨f, j', C', rfl, hf, hj, hfr, fun s P hP _ => op s P _ hP (se s (5 :: P) (by rw [List.length_cons]; omega) (fun _ => asks_r (by decide) (by decide)))⟩
    · have K1 := rdS_CI I j1 q1 c1
      rw [v, fcall_some, if_neg (by decide), cv_408 K1, k_emit I (by omega) (by omega) (by omega), fcall_some, if_neg (by decide)]
      refine Or.inr ⟨fun e w => - d1 e w, j1, q1 + 1, _, rfl, by omega, by omega, fun i hi => ?_, ?_, fun e w he => ?_, fun s P r hP h => ?_⟩
      · have := sg1.1.1
        rw [va_up_ne _ _ (by omega), hc1 i (by omega)]
      · have l1 := sg1.1.1
        have s1 : Seg (va_up c1 q1 (45 * 16384 + 0)) q q1 d1 _ := Seg_c sg1 (fun i h1 h2 => by rw [va_up_ne _ _ (by omega)])
        exact Seg_h (Seg_d (Seg_un s1 (k := 45) (Or.inl rfl) (va_up_self _ _ _)) (fun e w _ => rfl)) (by omega)
      · have := bd1 e w he
        show -1000000 ≤ - d1 e w ∧ - d1 e w ≤ 1000000
        omega
      · refine op s P r hP (so1 s (5 :: P) r (by rw [List.length_cons]; omega) ?_)
        unfold EndR at h ⊢
        rw [endO_m]
        exact h
  rw [if_neg (by omega)]
  by_cases h41 : tk j = 41
  · have eo : ocd (tk j) = 40 := by rw [h41]; rfl
    rw [eo] at op
    rw [if_pos (by omega), cv_408 J1]
    rcases hS k8 (j + 1) q c (by omega) (by omega) with ⟨f, j', C', v, hf, hj, hfr, se⟩ | ⟨d1, j1, q1, c1, v, hj, hq1, hc1, sg1, bd1, na, so1⟩
    · rw [v, fcall_some, if_pos rfl]
      exact Or.inl ⟨f, j', C', rfl, hf, hj, hfr, fun s P hP _ => op s P _ hP (se s (40 :: P) (by rw [List.length_cons]; omega) ⟨lowh (by decide) (by decide), fun _ => asks_o ⟨by decide, by decide⟩⟩)⟩
    · have K1 := rdS_CI I j1 q1 c1
      rw [v, fcall_some, if_neg (by decide), cv_408 K1]
      have bw : ∀ (Q P : List Nat), (∀ o ∈ Q, 5 ≤ rk o ∧ rk o ≤ 6) → btw (tk j1) (Q ++ 40 :: P) = 0 ∧ opn (Q ++ 40 :: P) = 40 := fun Q P hQ => by
        have e : opn (Q ++ 40 :: P) = 40 := by
          rw [opn_app Q _ (fun o ho => by have := hQ o ho; omega)]
          rfl
        refine ⟨?_, e⟩
        unfold btw
        rw [if_neg na.1, if_neg na.2.1, if_neg na.2.2.1, if_neg na.2.2.2, e, if_pos (by decide)]
      rcases k_rk I K 42 j1 q1 c1 (by omega) with ⟨t42, v2⟩ | ⟨t42, C', v2, hf⟩
      · have hj1T : j1 < T := lt_T K (by omega)
        rw [show (42 : Int) = ((42 : Nat) : Int) from rfl, v2, fcall_some, if_neg (by decide)]
        refine Or.inr ⟨d1, j1 + 1, q1, c1, rfl, by omega, by omega, hc1, Seg_h sg1 (by omega), bd1, fun s P r hP h => ?_⟩
        obtain ⟨s', Q, hQ, hE, hR⟩ := so1 s (40 :: P) (by rw [List.length_cons]; omega) (lowh (by decide) (by decide))
        refine op s P r hP (hR r ?_)
        obtain ⟨b1, b2⟩ := bw Q P hQ
        refine Rn_end (j := j1 + 1) (s := (d1 :: s.1, s.2)) (P := P) (k := k) ?_ (Nat.lt_succ_self j1) (by show j1 ≤ T; omega) h
        rw [pst_t]
        unfold beh
        rw [b1, b2, if_neg (by simp), t42]
        show (if (0 : Nat) = 99 then _ else _) = _
        rw [if_neg (by decide), stl_app 1 (P := 40 :: P) (show rk 40 < 1 by decide) Q (fun o ho => by have := hQ o ho; omega) hE]
        rfl
      · rw [show (42 : Int) = ((42 : Nat) : Int) from rfl, v2, fcall_some, if_pos rfl]
        refine Or.inl ⟨1, j1, C', rfl, hf, hj.2, by omega, fun s P hP _ => ?_⟩
        obtain ⟨s', Q, hQ, hE, hR⟩ := so1 s (40 :: P) (by rw [List.length_cons]; omega) (lowh (by decide) (by decide))
        refine op s P _ hP (hR _ (Rn_er ?_ (by show j1 ≤ T; omega)))
        obtain ⟨b1, b2⟩ := bw Q P hQ
        rw [pst_t]
        unfold beh prt
        rw [b1, b2, if_neg (by simp), if_pos rfl, if_neg t42, if_pos rfl, if_pos (by decide)]
  · have h24 : tk j = 24 := by omega
    have eo : ocd (tk j) = 42 := by rw [h24]; rfl
    rw [eo] at op
    rw [if_neg (by omega), cv_408 J1]
    rcases hI k8 (j + 1) q c (by omega) (by omega) with ⟨f, j', C', v, hf, hj, hfr, se⟩ | ⟨d1, j1, q1, c1, v, hj, hq1, hc1, sg1, bd1, so1⟩
    · rw [v, fcall_some]
      exact Or.inl ⟨f, j', C', rfl, hf, hj, hfr, fun s P hP _ => op s P _ hP (se s P (by omega))⟩
    · rw [v, fcall_some]
      exact Or.inr ⟨d1, j1, q1, c1, rfl, by omega, by omega, hc1, Seg_h sg1 (by omega), bd1, fun s P r hP h => op s P _ hP (so1 s P r (by omega) h)⟩
theorem nmx_b {t : Nat} (h : 9 ≤ t ∧ t ≤ 17) : 4 < nmx t ↔ (t = 10 ∨ t = 15 ∨ t = 16 ∨ t = 17) := by
  obtain ⟨h1, h2⟩ := h
  have : t = 9 ∨ t = 10 ∨ t = 11 ∨ t = 12 ∨ t = 13 ∨ t = 14 ∨ t = 15 ∨ t = 16 ∨ t = 17 := by omega
  rcases this with rfl | rfl | rfl | rfl | rfl | rfl | rfl | rfl | rfl <;> decide
theorem pOne {gA gB gE gI gO gP gS : Int → Int → jSt → Option (Int × jSt)} (I : CI x S C) (K : TKs C T tk tv) (hl : C 408 4 = (law : Int) + 1) {k j q : Nat} {c : Nat → Int} (hk : k ≤ 8) (hq : q ≤ j) (hjT0 : j ≤ T)
    (hO : k < 8 → ∀ j q c, q ≤ j → j ≤ T → OneP x S C tk tv law T (k + 1) j q c (gO ((x + 408 : Nat) : Int) ((k + 1 : Nat) : Int) (cS x S (rdS C j q c))))
    (hS : k < 8 → ∀ j q c, q ≤ j → j ≤ T → SumP x S C tk tv law T (k + 1) j q c (gS ((x + 408 : Nat) : Int) ((k + 1 : Nat) : Int) (cS x S (rdS C j q c))))
    (hI : k < 8 → ∀ j q c, q ≤ j → j ≤ T → IfP x S C tk tv law T (k + 1) j q c (gI ((x + 408 : Nat) : Int) ((k + 1 : Nat) : Int) (cS x S (rdS C j q c)))) : OneP x S C tk tv law T k j q c (f_X4_readOne_G gA gB gE gI gO gP gS ((x + 408 : Nat) : Int) (k : Int) (cS x S (rdS C j q c))) := by
  have hT := K.1.2
  have J := rdS_CI I j q c
  unfold f_X4_readOne_G
  rw [cv_408 J, k_kind I K, fcall_some]
  by_cases t30 : tk j = 30
  · have hjT : j < T := lt_T K (by omega)
    obtain ⟨_, _, _, v0, v1⟩ := K.2.1 j hjT
    rw [if_pos (by omega), cv_408 J]
    unfold f_X4_readPlainNumber
    rw [cr408_2 J, cg_408 J, rd_83, cv_403 J, k_val I K hjT, fcall_some]
    by_cases v : tv j ≤ 9999
    · have J1 := rdS_CI I (j + 1) q c
      rw [if_pos v, k_adv I (by omega), cv_408 J1, k_emit I (by omega) (by omega) (by omega), fcall_some, fcall_some]
      refine Or.inr ⟨fun _ _ => tv j, j + 1, q + 1, _, rfl, by omega, by omega, fun i hi => va_up_ne _ _ (by omega), Seg_h (Seg_num v0 (by omega) (va_up_self _ _ _)) (by omega), fun e w _ => ⟨show -1000000 ≤ tv j by omega, show tv j ≤ 1000000 by omega⟩, fun s P r hP h => ?_⟩
      refine Rn_end ?_ (Nat.lt_succ_self j) (by show j ≤ T; omega) h
      rw [pst_f]
      unfold begO
      rw [if_pos t30, if_neg (by omega)]
    · obtain ⟨C', v2, hf⟩ := k_ref I K 2 j q c
      rw [if_neg v, cv_408 J, show (2 : Int) = ((2 : Nat) : Int) from rfl, v2, fcall_some, fcall_some]
      refine Or.inl ⟨2, j, C', rfl, hf, by omega, by omega, fun s P _ _ => Rn_no ?_ (by omega)⟩
      unfold begO
      rw [if_pos t30, if_pos (by omega)]
  · rw [if_neg (by omega), s_within, fcall_some, if_b01]
    by_cases tn : 9 ≤ tk j ∧ tk j ≤ 17
    · have hjT : j < T := lt_T K (by omega)
      rw [if_pos (by omega), cv_408 J]
      have hnb := nmx_b tn
      have J1 := rdS_CI I (j + 1) q c
      have good : ¬ (4 < nmx (tk j) ∧ ¬ law = 0) → f_X4_readName_b48 ((x + 408 : Nat) : Int) (tk j : Int) (cS x S (rdS C j q c)) = some (1, cS x S (rdS C (j + 1) (q + 1) (va_up c q ((tk j : Int) * 16384 + 0)))) ∧ OneP x S C tk tv law T k j q c (some (1, cS x S (rdS C (j + 1) (q + 1) (va_up c q ((tk j : Int) * 16384 + 0))))) := fun hh => by
        refine ⟨?_, Or.inr ⟨fun e _ => e (nmx (tk j)), j + 1, q + 1, _, rfl, by omega, by omega, fun i hi => va_up_ne _ _ (by omega), Seg_h (Seg_nam tn.1 tn.2 (va_up_self _ _ _)) (by omega), fun e w he => he.1 _, fun s P r hP h => ?_⟩⟩
        · unfold f_X4_readName_b48
          rw [k_adv I (by omega), cv_408 J1, k_emit I (by omega) (by omega) (by omega), fcall_some]
        · refine Rn_end ?_ (Nat.lt_succ_self j) (by show j ≤ T; omega) h
          rw [pst_f]
          unfold begO
          rw [if_neg t30, if_pos tn, if_neg hh]
      unfold f_X4_readName f_X4_readName_b24 f_X4_readName_b29
      by_cases ob : tk j = 10 ∨ tk j = 15 ∨ tk j = 16 ∨ tk j = 17
      · have e : ∀ z w : Option (Int × jSt), (if (tk j : Int) = 10 then z else if (tk j : Int) = 15 then z else if (tk j : Int) = 16 then z else if (tk j : Int) = 17 then z else w) = z := fun z w => by
          rcases ob with h | h | h | h <;> simp [h]
        rw [e, if_neg (by decide), cg_408 J, rd_8o (by decide) (by decide), hl]
        by_cases l0 : law = 0
        · obtain ⟨g1, g2⟩ := good (fun q => q.2 l0)
          rw [if_pos (by omega), g1, fcall_some]
          exact g2
        · obtain ⟨C', v2, hf⟩ := k_ref I K 5 j q c
          rw [if_neg (by omega), cv_408 J, show (5 : Int) = ((5 : Nat) : Int) from rfl, v2, fcall_some, fcall_some]
          refine Or.inl ⟨5, j, C', rfl, hf, by omega, by omega, fun s P _ _ => Rn_no ?_ (by omega)⟩
          unfold begO
          rw [if_neg t30, if_pos tn, if_pos ⟨hnb.mpr ob, l0⟩]
      · obtain ⟨g1, g2⟩ := good (fun q => ob (hnb.mp q.1))
        rw [if_neg (by omega), if_neg (by omega), if_neg (by omega), if_neg (by omega), if_pos rfl, g1, fcall_some]
        exact g2
    · rw [if_neg (by omega)]
      by_cases ho : tk j = 41 ∨ tk j = 38 ∨ tk j = 26 ∨ tk j = 27 ∨ tk j = 24
      · have e : ∀ z w : Option (Int × jSt), (if (tk j : Int) = 41 then z else if (tk j : Int) = 38 then z else if (tk j : Int) = 26 then z else if (tk j : Int) = 27 then z else if (tk j : Int) = 24 then z else w) = z := fun z w => by
          rcases ho with h | h | h | h | h <;> simp [h]
        rw [e]
        exact pOne69 I K hk hq hjT0 hO hS hI ho
      · obtain ⟨C', v2, hf⟩ := k_ref I K 1 j q c
        rw [if_neg (by omega), if_neg (by omega), if_neg (by omega), if_neg (by omega), if_neg (by omega), cv_408 J, show (1 : Int) = ((1 : Nat) : Int) from rfl, v2, fcall_some]
        refine Or.inl ⟨1, j, C', rfl, hf, hjT0, by omega, fun s P _ hP => Rn_no ?_ hjT0⟩
        unfold begO
        rw [if_neg t30, if_neg tn, if_neg (by omega), if_neg (by omega), if_neg (by omega), if_neg (by omega), if_neg (by omega), if_neg]
        rintro ⟨z1, z2⟩
        rw [hP z1] at z2
        cases z2
end JO
