-- products and sums
section JS
variable {x : Nat} {S : jSt} {C : Nat → Nat → Int} {tk : Nat → Nat} {tv : Nat → Int} {law T : Nat}
theorem rk_ar {o : Nat} (h : 6 ≤ o ∧ o ≤ 9) : rk o = if 8 ≤ o then 6 else 5 := by
  have : o = 6 ∨ o = 7 ∨ o = 8 ∨ o = 9 := by omega
  rcases this with rfl | rfl | rfl | rfl <;> decide
theorem btw_ar {o : Nat} (h : 6 ≤ o ∧ o ≤ 9) (P : List Nat) : btw (o + 31) P = o := by
  have : o = 6 ∨ o = 7 ∨ o = 8 ∨ o = 9 := by omega
  unfold btw
  rcases this with rfl | rfl | rfl | rfl <;> rfl
theorem Rn_ar {o j k k1 : Nat} {s s1 : SS} {P Q : List Nat} {r : Except (Nat × Nat) MS} (ho : 6 ≤ o ∧ o ≤ 9) (t : tk j = o + 31) (hP : rk (hd P) < rk o) (hQ : ∀ p ∈ Q, rk o ≤ rk p) (hE : ems Q s k = some (s1, k1)) (hl : P.length < 150) (hT : j ≤ T) (h : Rn tk tv law T (j + 1, s1, o :: P, k1, false) r) : Rn tk tv law T (j, s, Q ++ P, k, true) r := by
  refine Rn_go ?_ (Nat.lt_succ_self j) hT h
  rw [pst_t]
  unfold beh
  have h4 : ¬ rk o = 4 := by rw [rk_ar ho]; split <;> omega
  rw [t, btw_ar ho, if_pos (by omega), if_neg h4, stl_app (rk o) hP Q hQ hE]
  show (if 150 ≤ P.length then _ else _) = _
  rw [if_neg (by omega)]
theorem ems_ar {o k : Nat} (ho : 6 ≤ o ∧ o ≤ 9) (d1 d2 : Den) (v : List Den) (t : List BDen) : ems [o] (d2 :: d1 :: v, t) k = some (((fun e w => ar2 o (d1 e w) (d2 e w)) :: v, t), k) := by
  have : o = 6 ∨ o = 7 ∨ o = 8 ∨ o = 9 := by omega
  rcases this with rfl | rfl | rfl | rfl <;> rfl
theorem jn2_ar {o : Nat} (ho : 6 ≤ o ∧ o ≤ 9) (a b : Int) : jn2 ((o + 31 : Nat) : Int) a b = ar2 o a b := by
  unfold jn2
  rw [if_neg (by omega), if_neg (by omega), if_neg (by omega), if_pos (by omega), show (((o + 31 : Nat) : Int) - 31).toNat = o by omega]
theorem pPro {gA gB gE gI gO gP gS : Int → Int → jSt → Option (Int × jSt)} (I : CI x S C) (K : TKs C T tk tv) {k j q : Nat} {c : Nat → Int} (hk : k ≤ 8) (hq : q ≤ j) (hjT0 : j ≤ T)
    (hO : ∀ j q c, q ≤ j → j ≤ T → OneP x S C tk tv law T k j q c (gO ((x + 408 : Nat) : Int) (k : Int) (cS x S (rdS C j q c)))) : ProP x S C tk tv law T k j q c (f_X4_readProduct_G gA gB gE gI gO gP gS ((x + 408 : Nat) : Int) (k : Int) (cS x S (rdS C j q c))) := by
  have hT := K.1.2
  have J := rdS_CI I j q c
  have loop : ∀ (n i j1 q1 : Nat) (c1 : Nat → Int) (d1 : Den), T - j1 < n → i < j1 → (j < j1 ∧ j1 ≤ T) → q1 ≤ q + (j1 - j) → (∀ i, i < q → c1 i = c i) → Seg c1 q q1 d1 (2 + 5 * (8 - k)) → Bd d1 → SOop tk tv law T k j (6 * k + 4) 5 6 d1 j1 → ProP x S C tk tv law T k j q c (jrep (fun _ _ _ _ => none) (fun r => f_X4_readProduct_b12B gA gB gE gI gO gP gS r) n ((x + 408 : Nat) : Int) (k : Int) (i : Int) (cS x S (rdS C j1 q1 c1))) := by
    intro n
    induction n with
    | zero => intro i j1 q1 c1 d1 h; omega
    | succ n ih =>
      intro i j1 q1 c1 d1 hn hi hj hq1 hc1 sg1 bd1 so1
      rw [jrep_s]
      unfold f_X4_readProduct_b12B
      have J1 := rdS_CI I j1 q1 c1
      rw [if_neg (by omega), cv_408 J1, k_kind I K, fcall_some]
      by_cases t : tk j1 = 39 ∨ tk j1 = 40
      · have e : ∀ z w : Option (Int × jSt), (if (tk j1 : Int) = 39 then z else if (tk j1 : Int) = 40 then z else w) = z := fun z w => by
          rcases t with h | h <;> simp [h]
        have hj1T : j1 < T := lt_T K (by omega)
        obtain ⟨o, ho, to⟩ : ∃ o, (8 ≤ o ∧ o ≤ 9) ∧ tk j1 = o + 31 := ⟨tk j1 - 31, by omega, by omega⟩
        have ho' : 6 ≤ o ∧ o ≤ 9 := by omega
        have ro : rk o = 6 := by rw [rk_ar ho', if_pos ho.1]
        have J2 := rdS_CI I (j1 + 1) q1 c1
        rw [e]
        unfold f_X4_readProduct_b38
        rw [k_adv I (by omega), cv_408 J2]
        rcases hO (j1 + 1) q1 c1 (by omega) (by omega) with ⟨f, j', C', v, hf, hj', hfr, se⟩ | ⟨d2, j2, q2, c2, v, hj2, hq2, hc2, sg2, bd2, so2⟩
        · rw [v, fcall_some, if_pos rfl]
          refine Or.inl ⟨f, j', C', rfl, hf, hj', hfr, fun s P hP hc => ?_⟩
          obtain ⟨s', Q, hQ, hE, hR⟩ := so1 s P hP hc.1
          have hc1 := hc.1.1
          exact hR _ (Rn_ar ho' to (by omega) (fun p hp => by have := hQ p hp; omega) hE (by omega) (by omega) (se _ (o :: P) (by rw [List.length_cons]; omega) (fun _ => asks_r (by omega) (by omega))))
        · have J3 := rdS_CI I j2 q2 c2
          rw [v, fcall_some, if_neg (by decide), cv_408 J3, k_emit I (by omega) (by omega) (by omega), fcall_some]
          simp only [flet_eq]
          rw [w32_of (by omega) (by omega), zs]
          have l1 := sg1.1.1
          have l2 := sg2.1.1
          refine ih (i + 1) j2 (q2 + 1) _ (fun e w => ar2 o (d1 e w) (d2 e w)) (by omega) (by omega) (by omega) (by omega) (fun i hi => ?_) ?_ (fun e w _ => ar2_b o _ _) (fun s P hP hc => ?_)
          · rw [va_up_ne _ _ (by omega), hc2 i (by omega), hc1 i hi]
          · have s1 : Seg (va_up c2 q2 ((tk j1 : Int) * 16384 + 0)) q q1 d1 _ := Seg_c sg1 (fun i h1 h2 => by rw [va_up_ne _ _ (by omega), hc2 i (by omega)])
            have s2 : Seg (va_up c2 q2 ((tk j1 : Int) * 16384 + 0)) q1 q2 d2 _ := Seg_c sg2 (fun i h1 h2 => by rw [va_up_ne _ _ (by omega)])
            refine Seg_h (Seg_d (Seg_bin s1 s2 (k := (tk j1 : Int)) (by omega) (va_up_self _ _ _)) (fun e w _ => ?_)) (by omega)
            show ar2 o _ _ = jn2 (tk j1 : Int) _ _
            rw [to, jn2_ar ho']
          · obtain ⟨s', Q, hQ, hE, hR⟩ := so1 s P hP hc
            have hc1 := hc.1
            refine ⟨(d2 :: d1 :: s.1, s.2), [o], fun p hp => ?_, ems_ar ho' d1 d2 s.1 s.2, fun r h => hR r (Rn_ar ho' to (by omega) (fun p hp => by have := hQ p hp; omega) hE (by omega) (by omega) (so2 (d1 :: s.1, s.2) (o :: P) r (by rw [List.length_cons]; omega) ?_))⟩
            · rw [List.mem_singleton] at hp
              rw [hp]; omega
            · unfold EndR
              rw [endO_o j2 _ (o :: P) k (show rk o ≤ 6 by omega) (show o ≠ 41 by omega)]
              exact h
      · rw [if_neg (by omega), if_neg (by omega)]
        exact Or.inr ⟨d1, j1, q1, c1, rfl, hj, hq1, hc1, sg1, bd1, ⟨by omega, by omega⟩, so1⟩
  unfold f_X4_readProduct_G
  rw [cv_408 J]
  rcases hO j q c hq hjT0 with ⟨f, j', C', v, hf, hj', hfr, se⟩ | ⟨d1, j1, q1, c1, v, hj1, hq1, hc1, sg1, bd1, so1⟩
  · rw [v, fcall_some, if_pos rfl]
    exact Or.inl ⟨f, j', C', rfl, hf, hj', hfr, fun s P hP hc => se s P (by omega) hc.2⟩
  · rw [v, fcall_some, if_neg (by decide)]
    refine loop jN 0 j1 q1 c1 d1 (by unfold jN; omega) (by omega) hj1 hq1 hc1 (Seg_h sg1 (by omega)) bd1 (fun s P hP hc => ⟨(d1 :: s.1, s.2), [], (fun p hp => by cases hp), rfl, fun r h => so1 s P r (by omega) ?_⟩)
    have hc1 := hc.1
    unfold EndR
    rw [endO_o j1 _ P k (by omega) hc.2]
    exact h
theorem pSum {gA gB gE gI gO gP gS : Int → Int → jSt → Option (Int × jSt)} (I : CI x S C) (K : TKs C T tk tv) {k j q : Nat} {c : Nat → Int} (hk : k ≤ 8) (hq : q ≤ j) (hjT0 : j ≤ T)
    (hO : ∀ j q c, q ≤ j → j ≤ T → ProP x S C tk tv law T k j q c (gP ((x + 408 : Nat) : Int) (k : Int) (cS x S (rdS C j q c)))) : SumP x S C tk tv law T k j q c (f_X4_readSum_G gA gB gE gI gO gP gS ((x + 408 : Nat) : Int) (k : Int) (cS x S (rdS C j q c))) := by
  have hT := K.1.2
  have J := rdS_CI I j q c
  have loop : ∀ (n i j1 q1 : Nat) (c1 : Nat → Int) (d1 : Den), T - j1 < n → i < j1 → (j < j1 ∧ j1 ≤ T) → q1 ≤ q + (j1 - j) → (∀ i, i < q → c1 i = c i) → Seg c1 q q1 d1 (3 + 5 * (8 - k)) → Bd d1 → (tk j1 ≠ 39 ∧ tk j1 ≠ 40) → SOop tk tv law T k j (6 * k + 3) 4 5 d1 j1 → SumP x S C tk tv law T k j q c (jrep (fun _ _ _ _ => none) (fun r => f_X4_readSum_b12B gA gB gE gI gO gP gS r) n ((x + 408 : Nat) : Int) (k : Int) (i : Int) (cS x S (rdS C j1 q1 c1))) := by
    intro n
    induction n with
    | zero => intro i j1 q1 c1 d1 h; omega
    | succ n ih =>
      intro i j1 q1 c1 d1 hn hi hj hq1 hc1 sg1 bd1 tn so1
      rw [jrep_s]
      unfold f_X4_readSum_b12B
      have J1 := rdS_CI I j1 q1 c1
      rw [if_neg (by omega), cv_408 J1, k_kind I K, fcall_some]
      by_cases t : tk j1 = 37 ∨ tk j1 = 38
      · have e : ∀ z w : Option (Int × jSt), (if (tk j1 : Int) = 37 then z else if (tk j1 : Int) = 38 then z else w) = z := fun z w => by
          rcases t with h | h <;> simp [h]
        have hj1T : j1 < T := lt_T K (by omega)
        obtain ⟨o, ho, to⟩ : ∃ o, (6 ≤ o ∧ o ≤ 7) ∧ tk j1 = o + 31 := ⟨tk j1 - 31, by omega, by omega⟩
        have ho' : 6 ≤ o ∧ o ≤ 9 := by omega
        have ro : rk o = 5 := by rw [rk_ar ho', if_neg (by omega)]
        have J2 := rdS_CI I (j1 + 1) q1 c1
        rw [e]
        unfold f_X4_readSum_b38
        rw [k_adv I (by omega), cv_408 J2]
        rcases hO (j1 + 1) q1 c1 (by omega) (by omega) with ⟨f, j', C', v, hf, hj', hfr, se⟩ | ⟨d2, j2, q2, c2, v, hj2, hq2, hc2, sg2, bd2, tn2, so2⟩
        · rw [v, fcall_some, if_pos rfl]
          refine Or.inl ⟨f, j', C', rfl, hf, hj', hfr, fun s P hP hc => ?_⟩
          obtain ⟨s', Q, hQ, hE, hR⟩ := so1 s P hP hc.1
          have hc1 := hc.1.1
          exact hR _ (Rn_ar ho' to (by omega) (fun p hp => by have := hQ p hp; omega) hE (by omega) (by omega) (se _ (o :: P) (by rw [List.length_cons]; omega) ⟨lowh (by omega) (by omega), fun _ => asks_r (by omega) (by omega)⟩))
        · have J3 := rdS_CI I j2 q2 c2
          rw [v, fcall_some, if_neg (by decide), cv_408 J3, k_emit I (by omega) (by omega) (by omega), fcall_some]
          simp only [flet_eq]
          rw [w32_of (by omega) (by omega), zs]
          have l1 := sg1.1.1
          have l2 := sg2.1.1
          refine ih (i + 1) j2 (q2 + 1) _ (fun e w => ar2 o (d1 e w) (d2 e w)) (by omega) (by omega) (by omega) (by omega) (fun i hi => ?_) ?_ (fun e w _ => ar2_b o _ _) tn2 (fun s P hP hc => ?_)
          · rw [va_up_ne _ _ (by omega), hc2 i (by omega), hc1 i hi]
          · have s1 : Seg (va_up c2 q2 ((tk j1 : Int) * 16384 + 0)) q q1 d1 _ := Seg_c sg1 (fun i h1 h2 => by rw [va_up_ne _ _ (by omega), hc2 i (by omega)])
            have s2 : Seg (va_up c2 q2 ((tk j1 : Int) * 16384 + 0)) q1 q2 d2 _ := Seg_c sg2 (fun i h1 h2 => by rw [va_up_ne _ _ (by omega)])
            refine Seg_h (Seg_d (Seg_bin s1 s2 (k := (tk j1 : Int)) (by omega) (va_up_self _ _ _)) (fun e w _ => ?_)) (by omega)
            show ar2 o _ _ = jn2 (tk j1 : Int) _ _
            rw [to, jn2_ar ho']
          · obtain ⟨s', Q, hQ, hE, hR⟩ := so1 s P hP hc
            have hc1 := hc.1
            obtain ⟨s2, Q2, hQ2, hE2, hR2⟩ := so2 (d1 :: s.1, s.2) (o :: P) (by rw [List.length_cons]; omega) (lowh (by omega) (by omega))
            refine ⟨s2, Q2 ++ [o], fun p hp => ?_, ems_app Q2 [o] hE2 (ems_ar ho' d1 d2 s.1 s.2), fun r h => hR r (Rn_ar ho' to (by omega) (fun p hp => by have := hQ p hp; omega) hE (by omega) (by omega) (hR2 r ?_))⟩
            · rw [List.mem_append, List.mem_singleton] at hp
              rcases hp with hp | hp
              · have := hQ2 p hp; omega
              · rw [hp]; omega
            · rw [List.append_assoc] at h
              exact h
      · rw [if_neg (by omega), if_neg (by omega)]
        exact Or.inr ⟨d1, j1, q1, c1, rfl, hj, hq1, hc1, sg1, bd1, ⟨by omega, by omega, tn.1, tn.2⟩, so1⟩
  unfold f_X4_readSum_G
  rw [cv_408 J]
  rcases hO j q c hq hjT0 with ⟨f, j', C', v, hf, hj', hfr, se⟩ | ⟨d1, j1, q1, c1, v, hj1, hq1, hc1, sg1, bd1, tn, so1⟩
  · rw [v, fcall_some, if_pos rfl]
    refine Or.inl ⟨f, j', C', rfl, hf, hj', hfr, fun s P hP hc => se s P (by omega) ⟨⟨?_, hc.1.2⟩, hc.2⟩⟩
    have := hc.1.1
    omega
  · rw [v, fcall_some, if_neg (by decide)]
    refine loop jN 0 j1 q1 c1 d1 (by unfold jN; omega) (by omega) hj1 hq1 hc1 (Seg_h sg1 (by omega)) bd1 tn (fun s P hP hc => ?_)
    have hc1 := hc.1
    obtain ⟨s', Q, hQ, hE, hR⟩ := so1 s P (by omega) ⟨by omega, hc.2⟩
    exact ⟨s', Q, fun p hp => by have := hQ p hp; omega, hE, hR⟩
end JS
