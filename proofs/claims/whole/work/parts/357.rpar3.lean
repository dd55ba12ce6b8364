-- the reference's reading of a law, step by step, as the piles say
section RP3
variable (m : Nat) (S : jSt) (B : Nat → Int) (L t0 w0 law : Nat)
def OkS (F : Nat → Nat → Int) (st : MS) (F' : Nat → Nat → Int) : Prop := ∃ w', Pm m S B L t0 w0 law F' st.1 w' st.2.1 st.2.2.1 st.2.2.2.1 (if st.2.2.2.2 = true then 1 else 0) ∧ PF t0 w0 F F' ∧ w' + st.2.2.1.length ≤ st.1 ∧ st.1 ≤ 300 ∧ st.2.2.2.1 ≤ 8 ∧ st.2.2.1.length ≤ 150
def ErS (F : Nat → Nat → Int) (e : Nat × Nat) (F' : Nat → Nat → Int) : Prop := RI m S F' ∧ PF t0 w0 F F' ∧ F' 0 8 = (psn B L e.2 : Int)
def StR (F : Nat → Nat → Int) (o : Option (Int × jSt)) (r : Except (Nat × Nat) MS) : Prop := match r with
  | .error e => 1 ≤ e.1 → e.1 ≤ 6 → ∃ F', o = some ((e.1 : Int), rS m S F') ∧ ErS m S B L t0 w0 F e F'
  | .ok st => ∃ F', o = some (0, rS m S F') ∧ OkS m S B L t0 w0 law F st F'
end RP3
section RP4
variable {m : Nat} {S : jSt} {F : Nat → Nat → Int} {B : Nat → Int} {L t0 w0 law j w : Nat} {s : SS} {P : List Nat} {k : Nat} {wh : Int}
theorem StR_er {o : Option (Int × jSt)} {f j' : Nat} {F' : Nat → Nat → Int} (h : o = some ((f : Int), rS m S F')) (e : ErS m S B L t0 w0 F (f, j') F') : StR m S B L t0 w0 law F o (.error (f, j')) := fun _ _ => ⟨F', h, e⟩
theorem StR_no {o : Option (Int × jSt)} {f j' : Nat} (h : 6 < f) : StR m S B L t0 w0 law F o (.error (f, j')) := fun _ h2 => absurd h2 (by show ¬ f ≤ 6; omega)
theorem StR_pf {F1 : Nat → Nat → Int} {o : Option (Int × jSt)} {r : Except (Nat × Nat) MS} (p : PF t0 w0 F F1) (h : StR m S B L t0 w0 law F1 o r) : StR m S B L t0 w0 law F o r := by
  cases r with
  | error e =>
    intro h1 h2
    obtain ⟨F', v, a, b, c⟩ := h h1 h2
    exact ⟨F', v, a, PF_t p b, c⟩
  | ok st =>
    obtain ⟨F', v, w', a, b, c⟩ := h
    exact ⟨F', v, w', a, PF_t p b, c⟩
theorem Pm_er (h : Pm m S B L t0 w0 law F j w s P k wh) (f : Nat) : ErS m S B L t0 w0 F (f, j) F := ⟨h.1.1, PF_r _ _ _, h.1.2.2.1.1.2.1⟩
theorem lt300 (hL : L ≤ 300) {j : Nat} (h : tkB B L j ≠ 44) : j < 300 ∧ psn B L j < L := by
  have hp : psn B L j < L := by
    unfold tkB kdX at h
    by_cases q : psn B L j < L
    · exact q
    · rw [if_neg q] at h; exact absurd rfl h
  have := psn_j B L j hp
  exact ⟨by omega, hp⟩
theorem tcode {p : Nat} (t : TokS F B L p) {k' : Nat} (h1 : 30 ≤ k') (h2 : k' ≤ 44) : F 0 9 = tcd k' ↔ kdX B L p = k' := t.2.1.2.1 k' h1 h2
theorem s_nameOf (R : RI m S F) {p : Nat} (t : TokS F B L p) : f_X12_nameOf (m : Int) (rS m S F) = some (if 9 ≤ kdX B L p ∧ kdX B L p ≤ 17 then (nmx (kdX B L p) : Int) else -1, rS m S F) := by
  unfold f_X12_nameOf f_X12_nameOf_b211
  rw [r_g R]
  by_cases h9 : F 0 9 = 2
  · have q : ∀ k', 1 ≤ k' → k' ≤ 29 → k' ≠ 2 → (F 0 11 = wcd k' ↔ kdX B L p = k') := fun k' a b c => ⟨fun z => (t.2.1.1 k' a b c).mp ⟨h9, z⟩, fun z => ((t.2.1.1 k' a b c).mpr z).2⟩
    rw [if_pos h9]
    simp only [r_g R, cw_11, cw_14, cw_12, cw_13, cw_9, cw_10, cw_15, cw_16, cw_17, fcall_some]
    by_cases e1 : kdX B L p = 11
    · rw [if_pos ((q 11 (by omega) (by omega) (by omega)).mpr e1), e1]; rfl
    rw [if_neg (fun z => e1 ((q 11 (by omega) (by omega) (by omega)).mp z))]
    by_cases e2 : kdX B L p = 14
    · rw [if_pos ((q 14 (by omega) (by omega) (by omega)).mpr e2), e2]; rfl
    rw [if_neg (fun z => e2 ((q 14 (by omega) (by omega) (by omega)).mp z))]
    by_cases e3 : kdX B L p = 12
    · rw [if_pos ((q 12 (by omega) (by omega) (by omega)).mpr e3), e3]; rfl
    rw [if_neg (fun z => e3 ((q 12 (by omega) (by omega) (by omega)).mp z))]
    by_cases e4 : kdX B L p = 13
    · rw [if_pos ((q 13 (by omega) (by omega) (by omega)).mpr e4), e4]; rfl
    rw [if_neg (fun z => e4 ((q 13 (by omega) (by omega) (by omega)).mp z))]
    by_cases e5 : kdX B L p = 9
    · rw [if_pos ((q 9 (by omega) (by omega) (by omega)).mpr e5), e5]; rfl
    rw [if_neg (fun z => e5 ((q 9 (by omega) (by omega) (by omega)).mp z))]
    by_cases e6 : kdX B L p = 10
    · rw [if_pos ((q 10 (by omega) (by omega) (by omega)).mpr e6), e6]; rfl
    rw [if_neg (fun z => e6 ((q 10 (by omega) (by omega) (by omega)).mp z))]
    by_cases e7 : kdX B L p = 15
    · rw [if_pos ((q 15 (by omega) (by omega) (by omega)).mpr e7), e7]; rfl
    rw [if_neg (fun z => e7 ((q 15 (by omega) (by omega) (by omega)).mp z))]
    by_cases e8 : kdX B L p = 16
    · rw [if_pos ((q 16 (by omega) (by omega) (by omega)).mpr e8), e8]; rfl
    rw [if_neg (fun z => e8 ((q 16 (by omega) (by omega) (by omega)).mp z))]
    by_cases e9 : kdX B L p = 17
    · rw [if_pos ((q 17 (by omega) (by omega) (by omega)).mpr e9), e9]; rfl
    rw [if_neg (fun z => e9 ((q 17 (by omega) (by omega) (by omega)).mp z)), if_neg (by omega)]
  · rw [if_neg h9, if_neg]
    intro z
    exact h9 ((t.2.1.1 (kdX B L p) (by omega) (by omega) (by omega)).mpr rfl).1
theorem s_opened (h : Pm m S B L t0 w0 law F j w s P k 0) (hI : w + P.length ≤ j) (hj : j < 300) (hk : k ≤ 8) (o : Nat) : StR m S B L t0 w0 law F (f_X12_opened (m : Int) (o : Int) (rS m S F)) (opd o j s P k) := by
  have R := h.1.1
  unfold f_X12_opened opd
  rw [r_g R, h.2.1.2.2.2.2.1]
  by_cases k8 : k = 8
  · rw [if_pos (by omega), if_pos k8]
    exact StR_er rfl (Pm_er h 3)
  rw [if_neg (by omega), if_neg k8]
  by_cases hl : 150 ≤ P.length
  · rw [if_pos hl]; exact StR_no (by omega)
  rw [if_neg hl, r_g R, h.2.1.2.2.2.2.1, w32_of (by omega) (by omega), r_p R, zs]
  have h1 : Pm m S B L t0 w0 law (va_up F 0 (va_up (F 0) 17 ((k + 1 : Nat) : Int))) j w s P (k + 1) 0 := Pm_0 h (by omega) (by rw [if_neg (by omega)]; exact h.2.1.2.2.2.1) (if_pos rfl) (by rw [if_neg (by omega)]; exact h.2.1.2.2.2.2.2) h.2.2.2.1
  have p1 := PF_p t0 w0 F (k := 17) ((k + 1 : Nat) : Int) (by omega)
  generalize va_up F 0 (va_up (F 0) 17 ((k + 1 : Nat) : Int)) = F1 at *
  have R1 := h1.1.1
  rw [r_pl R1, r_g R1, h1.2.1.2.2.2.1, rt_5 R1 (by omega) (by omega), toNat_z]
  have hp2 := PlR_up (F1 5) (o : Int) P P.length (Nat.le_refl _) h1.2.2.2.1
  have h2 := Pm_5 h1 hp2
  have p2 := PF_5 t0 w0 F1 (va_up (F1 5) P.length (o : Int))
  have e5 : va_up F1 5 (va_up (F1 5) P.length (o : Int)) 5 P.length = (o : Int) := by rw [va_up_self, va_up_self]
  generalize va_up F1 5 (va_up (F1 5) P.length (o : Int)) = F2 at *
  have R2 := h2.1.1
  rw [r_g R2, h2.2.1.2.2.2.1, w32_of (by omega) (by omega), r_p R2, zs]
  have h3 : Pm m S B L t0 w0 law (va_up F2 0 (va_up (F2 0) 16 ((P.length + 1 : Nat) : Int))) j w s (o :: P) (k + 1) 0 := Pm_0 h2 (by omega) (by rw [if_pos rfl, List.length_cons]) (by rw [if_neg (by omega)]; exact h2.2.1.2.2.2.2.1) (by rw [if_neg (by omega)]; exact h2.2.1.2.2.2.2.2) ⟨e5, h2.2.2.2.1⟩
  have p3 := PF_p t0 w0 F2 (k := 16) ((P.length + 1 : Nat) : Int) (by omega)
  obtain ⟨F', v, h4, l4⟩ := Pm_next h3
  rw [r_cv h3.1.1, v, fcall_some]
  exact ⟨F', rfl, w, h4, PF_t p1 (PF_t p2 (PF_t p3 (PF_LX l4))), by rw [List.length_cons]; show w + (P.length + 1) ≤ j + 1; omega, by show j + 1 ≤ 300; omega, by show k + 1 ≤ 8; omega, by show (o :: P).length ≤ 150; rw [List.length_cons]; omega⟩
theorem s_endOne (h : Pm m S B L t0 w0 law F j w s P k wh) (hI : w + P.length ≤ j) (hj : j ≤ 300) (hk : k ≤ 8) (hl : P.length ≤ 150) : StR m S B L t0 w0 law F (f_X12_endOne (m : Int) (rS m S F)) (endO (tkB B L) j s P k) := by
  unfold f_X12_endOne f_X12_endOne_b34 endO
  cases hst : stl 7 P s k with
  | none => exact StR_no (by omega)
  | some r =>
    obtain ⟨P', s', k'⟩ := r
    obtain ⟨F1, w1, v1, h1, p1, q1, q2, q3⟩ := s_settle 7 h hst (by omega) (by omega) (by omega)
    have R1 := h1.1.1
    rw [r_cv h.1.1, show (7 : Int) = ((7 : Nat) : Int) from rfl, v1, fcall_some, r_p R1]
    have h2 : Pm m S B L t0 w0 law (va_up F1 0 (va_up (F1 0) 18 1)) j w1 s' P' k' 1 := Pm_0 h1 (by omega) (by rw [if_neg (by omega)]; exact h1.2.1.2.2.2.1) (by rw [if_neg (by omega)]; exact h1.2.1.2.2.2.2.1) (if_pos rfl) h1.2.2.2.1
    have p2 := PF_p t0 w0 F1 (k := 18) 1 (by omega)
    generalize va_up F1 0 (va_up (F1 0) 18 1) = F2 at *
    have R2 := h2.1.1
    have p12 := PF_t p1 p2
    show StR m S B L t0 w0 law F _ (if hd P' = 41 then (if tkB B L j = 19 then .ok (j + 1, s', 4 :: P'.tail, k', false) else .error (1, j)) else .ok (j, s', P', k', true))
    have fin : StR m S B L t0 w0 law F (some (0, rS m S F2)) (.ok (j, s', P', k', true)) := ⟨F2, rfl, w1, h2, p12, by show w1 + P'.length ≤ j; omega, hj, by show k' ≤ 8; omega, by show P'.length ≤ 150; omega⟩
    rw [r_g R2, h2.2.1.2.2.2.1]
    cases P' with
    | nil =>
      rw [if_pos (show ((([] : List Nat).length : Nat) : Int) = 0 from rfl), if_neg (show ¬ hd [] = 41 by decide)]
      exact fin
    | cons o Q =>
      have ho : hd (o :: Q) = o := rfl
      rw [ho]
      have hQ := h2.2.2.2.1
      rw [List.length_cons] at q1 q2 ⊢
      have h16 := h2.2.1.2.2.2.1
      rw [List.length_cons] at h16
      rw [if_neg (by omega), r_pl R2, r_g R2, h16, w32_of (by omega) (by omega), show ((Q.length + 1 : Nat) : Int) - 1 = (Q.length : Int) by omega, r_5 R2 (by omega), hQ.1]
      by_cases h41 : o = 41
      · rw [if_pos (by omega), if_pos h41, cw_19, fcall_some, r_cv R2, s_isWord R2 h2.1.2.2.1 (by omega) (by omega) (by omega), fcall_some]
        by_cases t19 : tkB B L j = 19
        · have t19' : kdX B L (psn B L j) = 19 := t19
          have j3 := (lt300 (B := B) h2.1.2.1.2.2.1 (j := j) (by omega)).1
          rw [if_pos t19', if_neg (by decide), if_pos t19, r_cv R2]
          obtain ⟨F3, v3, h3, l3⟩ := Pm_next h2
          have R3 := h3.1.1
          have h16' := h3.2.1.2.2.2.1
          rw [List.length_cons] at h16'
          rw [v3, fcall_some, r_pl R3, r_g R3, h16', w32_of (by omega) (by omega), show ((Q.length + 1 : Nat) : Int) - 1 = (Q.length : Int) by omega, rt_5 R3 (by omega) (by omega), toNat_z]
          have hp4 : PlR (va_up (F3 5) Q.length 4) (4 :: Q) := ⟨by rw [va_up_self]; rfl, PlR_up (F3 5) 4 Q Q.length (Nat.le_refl _) h3.2.2.2.1.2⟩
          have R4 : RI m S (va_up F3 5 (va_up (F3 5) Q.length 4)) := rV R3 (by omega) _
          have h5 : Pm m S B L t0 w0 law (va_up F3 5 (va_up (F3 5) Q.length 4)) (j + 1) w1 s' (4 :: Q) k' 1 := by
            obtain ⟨⟨_, tp, t, ht⟩, g0, hw, hp, hc⟩ := h3
            have pf := PF_5 t0 w0 F3 (va_up (F3 5) Q.length 4)
            refine ⟨⟨R4, PF_TP tp pf, TokS_fr t (fun i _ _ => by rw [va_up_ne _ _ (by omega)]), ht⟩, ?_, hw, ?_, ?_⟩
            · rw [va_up_ne _ _ (by omega)]; exact g0
            · rw [va_up_self]; exact hp4
            · rw [va_up_ne _ _ (by omega)]; exact hc
          have p4 := PF_5 t0 w0 F3 (va_up (F3 5) Q.length 4)
          generalize va_up F3 5 (va_up (F3 5) Q.length 4) = F4 at *
          have h6 : Pm m S B L t0 w0 law (va_up F4 0 (va_up (F4 0) 18 0)) (j + 1) w1 s' (4 :: Q) k' 0 := Pm_0 h5 (by omega) (by rw [if_neg (by omega)]; exact h5.2.1.2.2.2.1) (by rw [if_neg (by omega)]; exact h5.2.1.2.2.2.2.1) (if_pos rfl) h5.2.2.2.1
          rw [r_p h5.1.1]
          exact ⟨_, rfl, w1, h6, PF_t p12 (PF_t (PF_LX l3) (PF_t p4 (PF_p t0 w0 F4 _ (by omega)))), by show w1 + (4 :: Q).length ≤ j + 1; rw [List.length_cons]; omega, by show j + 1 ≤ 300; omega, by show k' ≤ 8; omega, by show (4 :: Q).length ≤ 150; rw [List.length_cons]; omega⟩
        · have t19' : ¬ kdX B L (psn B L j) = 19 := t19
          rw [if_neg t19', if_pos rfl, if_neg t19]
          exact StR_er rfl ⟨R2, p12, h2.1.2.2.1.1.2.1⟩
      · rw [if_neg (by omega), if_neg h41]
        exact fin
theorem s_begEnd (h : Pm m S B L t0 w0 law F j w s P k 0) (hI : w + P.length ≤ j) (hj : j < 300) (hk : k ≤ 8) (hl : P.length ≤ 150) {o : Nat} {v : Int} {s' : SS} (hs : sx o v s = some s') (hok : okc (o : Int) v (lmt law)) : StR m S B L t0 w0 law F (f_X12_beginOne_b81 (m : Int) (m : Int) (o : Int) v (rS m S F)) (endO (tkB B L) (j + 1) s' P k) := by
  unfold f_X12_beginOne_b81
  obtain ⟨F1, v1, h1, p1, _⟩ := Pm_emit h (by omega) hs hok
  obtain ⟨F2, v2, h2, l2⟩ := Pm_next h1
  rw [r_cv h.1.1, v1, fcall_some, r_cv h1.1.1, v2, fcall_some, r_cv h2.1.1]
  have q := s_endOne h2 (by omega) (by omega) hk hl
  have p12 : PF t0 w0 F F2 := PF_t p1 (PF_LX l2)
  have id : ∀ o : Option (Int × jSt), fcall o (fun v11 S12 => some (v11, S12)) = o := fun o => by
    cases o with
    | none => rfl
    | some q => rfl
  rw [id]
  exact StR_pf p12 q
theorem f_id (o : Option (Int × jSt)) : fcall o (fun v11 S12 => some (v11, S12)) = o := by
  cases o with
  | none => rfl
  | some q => rfl
theorem b39_n (R : RI m S F) (n1 : ¬ F 0 9 = 1) (x1 : Nat) : f_X12_beginOne_b39 (m : Int) (x1 : Int) (rS m S F) = f_X12_beginOne_b81 (m : Int) (m : Int) 1 (x1 : Int) (rS m S F) := by
  unfold f_X12_beginOne_b39 f_X12_beginOne_b51 f_X12_beginOne_b65
  rw [r_g R, if_neg n1, if_neg (by omega), r_g R, if_neg n1, r_g R, if_neg n1]
theorem b39_1 (R : RI m S F) (n1 : F 0 9 = 1) (x1 : Int) : f_X12_beginOne_b39 (m : Int) x1 (rS m S F) = f_X12_beginOne_b81 (m : Int) (m : Int) 0 (F 0 10) (rS m S F) := by
  unfold f_X12_beginOne_b39 f_X12_beginOne_b51 f_X12_beginOne_b65
  rw [r_g R, if_pos n1, r_g R, if_pos n1, r_g R, if_pos n1, r_g R]
theorem s_beginOne (h : Pm m S B L t0 w0 law F j w s P k 0) (hI : w + P.length ≤ j) (hj : j ≤ 300) (hk : k ≤ 8) (hl : P.length ≤ 150) : StR m S B L t0 w0 law F (f_X12_beginOne (m : Int) (rS m S F)) (begO (tkB B L) (tvB B L) law j s P k) := by
  have R := h.1.1
  have t := h.1.2.2.1
  have hL := h.1.2.1.2.2.1
  have ek : kdX B L (psn B L j) = tkB B L j := rfl
  have c30 : F 0 9 = 1 ↔ tkB B L j = 30 := tcode t (k' := 30) (by omega) (by omega)
  have c41 : F 0 9 = 40 ↔ tkB B L j = 41 := tcode t (k' := 41) (by omega) (by omega)
  have c38 : F 0 9 = 45 ↔ tkB B L j = 38 := tcode t (k' := 38) (by omega) (by omega)
  unfold f_X12_beginOne f_X12_beginOne_b20 begO
  by_cases t30 : tkB B L j = 30
  · have jl := lt300 (B := B) hL (j := j) (by omega)
    have etv : tvB B L j = vlA B L (psn B L j) := by unfold tvB; rw [if_pos jl.2]
    have hn := t.2.1.2.2 t30
    rw [← etv] at hn
    rw [r_g R, if_pos (c30.mpr t30), r_g R, if_pos t30]
    by_cases h9 : 9999 < tvB B L j
    · have := hn.2 h9
      rw [if_neg (by omega), if_pos h9]
      exact StR_er rfl (Pm_er h 2)
    · have := hn.1 (by omega)
      rw [if_pos (by omega), if_neg h9, r_cv R, s_nameOf R t, fcall_some, ek, if_neg (show ¬ (9 ≤ tkB B L j ∧ tkB B L j ≤ 17) by omega), if_pos (by decide), b39_1 R (c30.mpr t30), this]
      have hv := vlA_b (B := B) jl.2
      rw [← etv] at hv
      exact s_begEnd h hI jl.1 hk hl (o := 0) rfl ⟨by omega, Or.inr ⟨by omega, by omega⟩, Or.inl (by omega)⟩
  have n1 : ¬ F 0 9 = 1 := fun z => t30 (c30.mp z)
  rw [r_g R, if_neg n1, if_neg t30, r_cv R, s_nameOf R t, fcall_some, ek]
  by_cases tn : 9 ≤ tkB B L j ∧ tkB B L j ≤ 17
  · have jl := lt300 (B := B) hL (j := j) (by omega)
    rw [if_pos tn, if_pos tn, b39_n R n1, r_g R, h.2.1.2.2.1]
    have good := s_begEnd h hI jl.1 hk hl (o := 1) (v := (nmx (tkB B L j) : Int)) (s' := ((fun e _ => e (nmx (tkB B L j))) :: s.1, s.2)) (by unfold sx; rw [if_neg (by decide), if_pos rfl, toNat_z])
    have nx8 : nmx (tkB B L j) ≤ 8 := by unfold nmx; (repeat' split) <;> omega
    by_cases n4 : nmx (tkB B L j) ≤ 4
    · rw [if_pos (by omega), if_neg (by omega)]
      exact good ⟨by omega, Or.inl (by omega), Or.inr ⟨by omega, by unfold lmt; split <;> omega⟩⟩
    · rw [if_neg (by omega)]
      by_cases l0 : law = 0
      · rw [if_pos (by omega), if_neg (by omega)]
        exact good ⟨by omega, Or.inl (by omega), Or.inr ⟨by omega, by unfold lmt; rw [if_pos l0]; omega⟩⟩
      · rw [if_neg (by omega), if_pos ⟨by omega, l0⟩]
        exact StR_er rfl (Pm_er h 5)
  rw [if_neg tn, if_neg tn, if_pos (by decide)]
  have opn1 : ∀ o : Nat, tkB B L j ≠ 44 → StR m S B L t0 w0 law F (fcallv (rS m S F) (m : Int) 12 (f_X12_opened (m : Int) (o : Int) (rS m S F)) (fun v44 S45 => some (v44, S45))) (opd o j s P k) := fun o hne => by
    rw [r_cv R, f_id]
    exact s_opened h hI (lt300 (B := B) hL hne).1 hk o
  unfold f_X12_beginOne_b39 f_X12_beginOne_b230 f_X12_beginOne_b231
  rw [r_g R, if_neg n1, if_pos (by decide), r_g R]
  by_cases t41 : tkB B L j = 41
  · rw [if_pos (c41.mpr t41), if_pos t41]
    exact opn1 40 (by omega)
  rw [if_neg (fun z => t41 (c41.mp z)), if_neg t41, r_g R]
  by_cases t38 : tkB B L j = 38
  · rw [if_pos (c38.mpr t38), if_pos t38]
    exact opn1 5 (by omega)
  rw [if_neg (fun z => t38 (c38.mp z)), if_neg t38, cw_26, fcall_some, r_cv R, s_isWord R t (by omega) (by omega) (by omega), fcall_some, ek]
  by_cases t26 : tkB B L j = 26
  · rw [if_pos t26, if_neg (by decide), if_pos t26]
    exact opn1 41 (by omega)
  rw [if_neg t26, if_pos rfl, if_neg t26, cw_27, fcall_some, r_cv R, s_isWord R t (by omega) (by omega) (by omega), fcall_some, ek]
  by_cases t27 : tkB B L j = 27
  · rw [if_pos t27, if_neg (by decide), if_pos t27]
    exact opn1 2 (by omega)
  rw [if_neg t27, if_pos rfl, if_neg t27, cw_24, fcall_some, r_cv R, s_isWord R t (by omega) (by omega) (by omega), fcall_some, ek]
  by_cases t24 : tkB B L j = 24
  · rw [if_pos t24, if_neg (by decide), if_pos t24]
    exact opn1 42 (by omega)
  rw [if_neg t24, if_pos rfl, if_neg t24, cw_25, fcall_some, r_cv R, s_isWord R t (by omega) (by omega) (by omega), fcall_some, ek]
  by_cases t25 : tkB B L j = 25
  · rw [if_pos t25, if_neg (by decide), r_cv R, s_isAskAhead R h.2.1.2.2.2.1 h.2.2.2.1 (by omega), fcall_some]
    by_cases ha : asks P = true
    · rw [if_pos ha, if_neg (by decide), if_pos ⟨t25, ha⟩]
      exact opn1 20 (by omega)
    · rw [if_neg ha, if_pos rfl, if_neg (fun z => ha z.2)]
      exact StR_er rfl (Pm_er h 1)
  rw [if_neg t25, if_pos rfl, if_neg (fun z => t25 z.1)]
  exact StR_er rfl (Pm_er h 1)
end RP4
