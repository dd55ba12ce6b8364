-- what stands behind a ONE; a law whole
section RP5
variable {m : Nat} {S : jSt} {F : Nat → Nat → Int} {B : Nat → Int} {L t0 w0 law j w : Nat} {s : SS} {P : List Nat} {k : Nat} {wh : Int}
theorem s_compareOf (R : RI m S F) {p : Nat} (t : TokS F B L p) : f_X12_compareOf (m : Int) (rS m S F) = some (if 31 ≤ kdX B L p ∧ kdX B L p ≤ 36 then ((kdX B L p - 21 : Nat) : Int) else -1, rS m S F) := by
  have c31 : F 0 9 = 60 ↔ kdX B L p = 31 := tcode t (k' := 31) (by omega) (by omega)
  have c32 : F 0 9 = 4 ↔ kdX B L p = 32 := tcode t (k' := 32) (by omega) (by omega)
  have c33 : F 0 9 = 62 ↔ kdX B L p = 33 := tcode t (k' := 33) (by omega) (by omega)
  have c34 : F 0 9 = 5 ↔ kdX B L p = 34 := tcode t (k' := 34) (by omega) (by omega)
  have c35 : F 0 9 = 61 ↔ kdX B L p = 35 := tcode t (k' := 35) (by omega) (by omega)
  have c36 : F 0 9 = 35 ↔ kdX B L p = 36 := tcode t (k' := 36) (by omega) (by omega)
  unfold f_X12_compareOf f_X12_compareOf_b83
  simp only [r_g R]
  by_cases e1 : kdX B L p = 31
  · rw [if_pos (c31.mpr e1), e1]; rfl
  rw [if_neg (fun z => e1 (c31.mp z))]
  by_cases e2 : kdX B L p = 32
  · rw [if_pos (c32.mpr e2), e2]; rfl
  rw [if_neg (fun z => e2 (c32.mp z))]
  by_cases e3 : kdX B L p = 33
  · rw [if_pos (c33.mpr e3), e3]; rfl
  rw [if_neg (fun z => e3 (c33.mp z))]
  by_cases e4 : kdX B L p = 34
  · rw [if_pos (c34.mpr e4), e4]; rfl
  rw [if_neg (fun z => e4 (c34.mp z))]
  by_cases e5 : kdX B L p = 35
  · rw [if_pos (c35.mpr e5), e5]; rfl
  rw [if_neg (fun z => e5 (c35.mp z))]
  by_cases e6 : kdX B L p = 36
  · rw [if_pos (c36.mpr e6), e6]; rfl
  rw [if_neg (fun z => e6 (c36.mp z)), if_neg (by omega)]
theorem s_betweenOf (h : Pm m S B L t0 w0 law F j w s P k wh) (hl : P.length ≤ 160) : f_X12_betweenOf (m : Int) (rS m S F) = some (if btw (tkB B L j) P = 0 then -1 else (btw (tkB B L j) P : Int), rS m S F) := by
  have R := h.1.1
  have t := h.1.2.2.1
  have ek : kdX B L (psn B L j) = tkB B L j := rfl
  have h16 := h.2.1.2.2.2.1
  have hp := h.2.2.2.1
  have c37 : F 0 9 = 43 ↔ tkB B L j = 37 := tcode t (k' := 37) (by omega) (by omega)
  have c38 : F 0 9 = 45 ↔ tkB B L j = 38 := tcode t (k' := 38) (by omega) (by omega)
  have c39 : F 0 9 = 42 ↔ tkB B L j = 39 := tcode t (k' := 39) (by omega) (by omega)
  have c40 : F 0 9 = 47 ↔ tkB B L j = 40 := tcode t (k' := 40) (by omega) (by omega)
  have fin : ∀ z : Nat, btw (tkB B L j) P = z → (some ((if z = 0 then -1 else (z : Int)), rS m S F) : Option (Int × jSt)) = some (if btw (tkB B L j) P = 0 then -1 else (btw (tkB B L j) P : Int), rS m S F) := fun z hz => by rw [hz]
  unfold f_X12_betweenOf f_X12_betweenOf_b112
  rw [r_g R]
  by_cases e1 : tkB B L j = 37
  · rw [if_pos (c37.mpr e1)]
    exact fin 6 (by unfold btw; rw [if_pos e1])
  rw [if_neg (fun z => e1 (c37.mp z)), r_g R]
  by_cases e2 : tkB B L j = 38
  · rw [if_pos (c38.mpr e2)]
    exact fin 7 (by unfold btw; rw [if_neg e1, if_pos e2])
  rw [if_neg (fun z => e2 (c38.mp z)), r_g R]
  by_cases e3 : tkB B L j = 39
  · rw [if_pos (c39.mpr e3)]
    exact fin 8 (by unfold btw; rw [if_neg e1, if_neg e2, if_pos e3])
  rw [if_neg (fun z => e3 (c39.mp z)), r_g R]
  by_cases e4 : tkB B L j = 40
  · rw [if_pos (c40.mpr e4)]
    exact fin 9 (by unfold btw; rw [if_neg e1, if_neg e2, if_neg e3, if_pos e4])
  rw [if_neg (fun z => e4 (c40.mp z)), r_cv R, s_openNow R h16 hp hl, fcall_some]
  by_cases ho : opn P = 42
  · rw [if_pos (show (if opn P = 0 then (-1 : Int) else (opn P : Int)) = 42 by rw [ho]; rfl), r_cv R, s_isCompared R h16 hp hl, fcall_some]
    by_cases hc : cmpd P = true
    · rw [if_neg (show ¬ (if cmpd P = true then (1 : Int) else 0) = 0 by rw [if_pos hc]; decide), cw_29, fcall_some, r_cv R, s_isWord R t (by omega) (by omega) (by omega), fcall_some, ek]
      by_cases e5 : tkB B L j = 29
      · rw [if_neg (show ¬ (if tkB B L j = 29 then (1 : Int) else 0) = 0 by rw [if_pos e5]; decide)]
        exact fin 21 (by unfold btw; rw [if_neg e1, if_neg e2, if_neg e3, if_neg e4, if_neg (fun z => z ho), if_neg (fun z => z hc), if_pos e5])
      rw [if_pos (show (if tkB B L j = 29 then (1 : Int) else 0) = 0 by rw [if_neg e5]), cw_28, fcall_some, r_cv R, s_isWord R t (by omega) (by omega) (by omega), fcall_some, ek]
      by_cases e6 : tkB B L j = 28
      · rw [if_neg (show ¬ (if tkB B L j = 28 then (1 : Int) else 0) = 0 by rw [if_pos e6]; decide)]
        exact fin 22 (by unfold btw; rw [if_neg e1, if_neg e2, if_neg e3, if_neg e4, if_neg (fun z => z ho), if_neg (fun z => z hc), if_neg e5, if_pos e6])
      rw [if_pos (show (if tkB B L j = 28 then (1 : Int) else 0) = 0 by rw [if_neg e6])]
      exact fin 0 (by unfold btw; rw [if_neg e1, if_neg e2, if_neg e3, if_neg e4, if_neg (fun z => z ho), if_neg (fun z => z hc), if_neg e5, if_neg e6])
    · rw [if_pos (show (if cmpd P = true then (1 : Int) else 0) = 0 by rw [if_neg hc]), r_cv R, s_compareOf R t, fcall_some, ek]
      by_cases e5 : 31 ≤ tkB B L j ∧ tkB B L j ≤ 36
      · rw [if_pos e5]
        have := fin (tkB B L j - 21) (by unfold btw; rw [if_neg e1, if_neg e2, if_neg e3, if_neg e4, if_neg (fun z => z ho), if_pos hc, if_pos e5])
        rw [if_neg (by omega)] at this
        exact this
      · rw [if_neg e5]
        exact fin 0 (by unfold btw; rw [if_neg e1, if_neg e2, if_neg e3, if_neg e4, if_neg (fun z => z ho), if_pos hc, if_neg e5])
  · rw [if_neg (show ¬ (if opn P = 0 then (-1 : Int) else (opn P : Int)) = 42 by split <;> omega)]
    exact fin 0 (by unfold btw; rw [if_neg e1, if_neg e2, if_neg e3, if_neg e4, if_pos ho])
theorem s_partOf (h : Pm m S B L t0 w0 law F j w s P k wh) (hl : P.length ≤ 160) : f_X12_partOf (m : Int) (if opn P = 0 then -1 else (opn P : Int)) (rS m S F) = some (if prt (opn P) (tkB B L j) P = 99 then -1 else (prt (opn P) (tkB B L j) P : Int), rS m S F) := by
  have R := h.1.1
  have t := h.1.2.2.1
  have ek : kdX B L (psn B L j) = tkB B L j := rfl
  have h16 := h.2.1.2.2.2.1
  have hp := h.2.2.2.1
  have eo : ∀ z : Nat, z ≠ 0 → ((if opn P = 0 then (-1 : Int) else (opn P : Int)) = (z : Int) ↔ opn P = z) := fun z hz => by
    split <;> omega
  have c42 : F 0 9 = 41 ↔ tkB B L j = 42 := tcode t (k' := 42) (by omega) (by omega)
  have eo40 : (if opn P = 0 then (-1 : Int) else (opn P : Int)) = 40 ↔ opn P = 40 := eo 40 (by omega)
  have eo41 : (if opn P = 0 then (-1 : Int) else (opn P : Int)) = 41 ↔ opn P = 41 := eo 41 (by omega)
  have eo42 : (if opn P = 0 then (-1 : Int) else (opn P : Int)) = 42 ↔ opn P = 42 := eo 42 (by omega)
  have eo43 : (if opn P = 0 then (-1 : Int) else (opn P : Int)) = 43 ↔ opn P = 43 := eo 43 (by omega)
  have eo44 : (if opn P = 0 then (-1 : Int) else (opn P : Int)) = 44 ↔ opn P = 44 := eo 44 (by omega)
  have fin : ∀ z : Nat, prt (opn P) (tkB B L j) P = z → (some ((if z = 99 then -1 else (z : Int)), rS m S F) : Option (Int × jSt)) = some (if prt (opn P) (tkB B L j) P = 99 then -1 else (prt (opn P) (tkB B L j) P : Int), rS m S F) := fun z hz => by rw [hz]
  unfold f_X12_partOf f_X12_partOf_b50 f_X12_partOf_b81 f_X12_partOf_b82 f_X12_partOf_b107 f_X12_partOf_b129 f_X12_partOf_b130
  by_cases o40 : opn P = 40
  · rw [if_pos (eo40.mpr o40), r_g R]
    by_cases e : tkB B L j = 42
    · rw [if_pos (c42.mpr e)]
      exact fin 0 (by unfold prt; rw [if_pos o40, if_pos e])
    · rw [if_neg (fun z => e (c42.mp z))]
      exact fin 99 (by unfold prt; rw [if_pos o40, if_neg e])
  rw [if_neg (fun z => o40 (eo40.mp z))]
  by_cases o41 : opn P = 41
  · rw [if_pos (eo41.mpr o41)]
    exact fin 99 (by unfold prt; rw [o41]; rfl)
  rw [if_neg (fun z => o41 (eo41.mp z))]
  by_cases o42 : opn P = 42
  · rw [if_pos (eo42.mpr o42), cw_21, fcall_some, r_cv R, s_isWord R t (by omega) (by omega) (by omega), fcall_some, ek]
    by_cases e : tkB B L j = 21
    · rw [if_neg (show ¬ (if tkB B L j = 21 then (1 : Int) else 0) = 0 by rw [if_pos e]; decide), r_cv R, s_isCompared R h16 hp hl, fcall_some]
      by_cases hc : cmpd P = true
      · rw [if_neg (show ¬ (if cmpd P = true then (1 : Int) else 0) = 0 by rw [if_pos hc]; decide)]
        exact fin 43 (by unfold prt; rw [if_neg o40, if_pos o42, if_pos ⟨e, hc⟩])
      · rw [if_pos (show (if cmpd P = true then (1 : Int) else 0) = 0 by rw [if_neg hc])]
        exact fin 99 (by unfold prt; rw [if_neg o40, if_pos o42, if_neg (fun z => hc z.2)])
    · rw [if_pos (show (if tkB B L j = 21 then (1 : Int) else 0) = 0 by rw [if_neg e])]
      exact fin 99 (by unfold prt; rw [if_neg o40, if_pos o42, if_neg (fun z => e z.1)])
  rw [if_neg (fun z => o42 (eo42.mp z))]
  by_cases o43 : opn P = 43
  · rw [if_pos (eo43.mpr o43), cw_22, fcall_some, r_cv R, s_isWord R t (by omega) (by omega) (by omega), fcall_some, ek]
    by_cases e : tkB B L j = 22
    · rw [if_neg (show ¬ (if tkB B L j = 22 then (1 : Int) else 0) = 0 by rw [if_pos e]; decide)]
      exact fin 44 (by unfold prt; rw [if_neg o40, if_neg o42, if_pos o43, if_pos e])
    · rw [if_pos (show (if tkB B L j = 22 then (1 : Int) else 0) = 0 by rw [if_neg e])]
      exact fin 99 (by unfold prt; rw [if_neg o40, if_neg o42, if_pos o43, if_neg e])
  rw [if_neg (fun z => o43 (eo43.mp z))]
  by_cases o44 : opn P = 44
  · rw [if_pos (eo44.mpr o44), cw_23, fcall_some, r_cv R, s_isWord R t (by omega) (by omega) (by omega), fcall_some, ek]
    by_cases e : tkB B L j = 23
    · rw [if_neg (show ¬ (if tkB B L j = 23 then (1 : Int) else 0) = 0 by rw [if_pos e]; decide)]
      exact fin 0 (by unfold prt; rw [if_neg o40, if_neg o42, if_neg o43, if_pos o44, if_pos e])
    · rw [if_pos (show (if tkB B L j = 23 then (1 : Int) else 0) = 0 by rw [if_neg e])]
      exact fin 99 (by unfold prt; rw [if_neg o40, if_neg o42, if_neg o43, if_pos o44, if_neg e])
  rw [if_neg (fun z => o44 (eo44.mp z))]
  exact fin 99 (by unfold prt; rw [if_neg o40, if_neg o42, if_neg o43, if_neg o44])
theorem rk_lo {o : Nat} (h : 1 ≤ rk o) : o < 40 := rk_0 h
theorem stl_opn : ∀ (P : List Nat) {s s' : SS} {k k' : Nat} {P' : List Nat}, stl 1 P s k = some (P', s', k') → opn P' = opn P := by
  intro P
  induction P with
  | nil =>
    intro s s' k k' P' h
    rw [stl] at h
    injection h with h
    injection h with e1 e2
    rw [← e1]
  | cons o P ih =>
    intro s s' k k' P' h
    rw [stl] at h
    by_cases hr : 1 ≤ rk o
    · rw [if_pos hr] at h
      cases h1 : sx o 0 s with
      | none => rw [h1] at h; cases h
      | some s1 =>
        cases h2 : kdn o k with
        | none => rw [h1, h2] at h; cases h
        | some k1 =>
          rw [h1, h2] at h
          rw [ih h, opn, if_neg (by have := rk_lo hr; omega)]
    · rw [if_neg hr] at h
      injection h with h
      injection h with e1 e2
      rw [← e1]
theorem setO_l (z : Nat) : ∀ P, (setO z P).length = P.length
  | [] => rfl
  | o :: P => by
    rw [setO]
    split
    · rfl
    · rw [List.length_cons, List.length_cons, setO_l z P]
theorem setO_p (f : Nat → Int) (z : Nat) : ∀ P, PlR f P → 0 ≤ opi P → PlR (va_up f (opi P).toNat (z : Int)) (setO z P)
  | [], _, h => by rw [opi] at h; omega
  | o :: P, q, h => by
    rw [opi] at h ⊢
    rw [setO]
    by_cases h4 : 40 ≤ o
    · rw [if_pos h4, if_pos h4, toNat_z]
      exact ⟨va_up_self _ _ _, PlR_up f _ P P.length (Nat.le_refl _) q.2⟩
    · rw [if_neg h4] at h ⊢
      rw [if_neg h4]
      have hb := opi_b P
      refine ⟨?_, setO_p f z P q.2 h⟩
      rw [setO_l, va_up_ne _ _ (by omega)]
      exact q.1
theorem bad6 {α : Prop} (j : Nat) (h : (8 : Nat) ≤ 6 ∨ (9 : Nat) ≤ 6) : α := by omega
def BhR (m : Nat) (S : jSt) (B : Nat → Int) (L t0 w0 law : Nat) (F : Nat → Nat → Int) (o : Option (Int × jSt)) (r : Int → jSt → Option (Int × jSt)) (res : Except (Nat × Nat) (Bool × MS)) : Prop := match res with
  | .error e => 1 ≤ e.1 → e.1 ≤ 6 → ∃ F', o = some ((e.1 : Int), rS m S F') ∧ ErS m S B L t0 w0 F e F'
  | .ok (true, st) => ∃ F', o = some (0, rS m S F') ∧ OkS m S B L t0 w0 law F st F'
  | .ok (false, st) => ∃ F', o = r (m : Int) (rS m S F') ∧ OkS m S B L t0 w0 law F st F'
theorem BhR_st {o : Option (Int × jSt)} {r : Int → jSt → Option (Int × jSt)} {res : Except (Nat × Nat) MS} (h : StR m S B L t0 w0 law F o res) : BhR m S B L t0 w0 law F (fcall o (fun v5 S6 => f_X12_summed_b33 r (m : Int) v5 S6)) r (fls res) := by
  cases res with
  | error e =>
    intro h1 h2
    obtain ⟨F', v, q⟩ := h h1 h2
    refine ⟨F', ?_, q⟩
    rw [v, fcall_some]
    unfold f_X12_summed_b33
    rw [if_neg (by omega)]
  | ok st =>
    obtain ⟨F', v, q⟩ := h
    refine ⟨F', ?_, q⟩
    rw [v, fcall_some]
    unfold f_X12_summed_b33
    rw [if_pos (by decide), if_pos rfl]
theorem s_step {wl : Bool} (h : Pm m S B L t0 w0 law F j w s P k (if wl = true then 1 else 0)) (hI : w + P.length ≤ j) (hj : j ≤ 300) (hk : k ≤ 8) (hl : P.length ≤ 150) (r : Int → jSt → Option (Int × jSt)) : BhR m S B L t0 w0 law F (f_X12_summed_b15B r (m : Int) (rS m S F)) r (pst (tkB B L) (tvB B L) law (j, s, P, k, wl)) := by
  have R := h.1.1
  have hL := h.1.2.1.2.2.1
  unfold f_X12_summed_b15B
  rw [r_g R, h.2.1.2.2.2.2.2]
  cases wl with
  | false =>
    rw [pst_f, if_pos (by decide), r_cv R]
    exact BhR_st (s_beginOne h hI hj hk hl)
  | true =>
    rw [pst_t, if_neg (by decide), r_cv R]
    unfold f_X12_behindOne beh
    rw [r_cv R, s_betweenOf h (by omega), fcall_some]
    by_cases hb : btw (tkB B L j) P = 0
    · rw [if_pos hb, if_pos (by decide), if_neg (fun z => z hb), r_cv R, s_openNow R h.2.1.2.2.2.1 h.2.2.2.1 (by omega), fcall_some, r_cv R, s_partOf h (by omega), fcall_some]
      by_cases hp9 : prt (opn P) (tkB B L j) P = 99
      · rw [if_pos hp9, if_neg (by decide), if_pos hp9, fcall_some]
        unfold f_X12_summed_b33
        rw [if_pos (by decide), if_neg (by decide), r_cv R, s_openNow R h.2.1.2.2.2.1 h.2.2.2.1 (by omega), fcall_some]
        by_cases ho : opn P = 0
        · rw [if_pos ho, if_pos (by decide), if_neg (fun z => z ho), r_cv R]
          cases hst : stl 1 P s k with
          | none => exact fun _ h2 => (by first | exact bad6 0 (Or.inl h2) | exact bad6 0 (Or.inr h2))
          | some q =>
            obtain ⟨P', s', k'⟩ := q
            obtain ⟨F1, w1, v1, h1, p1, q1, q2, q3⟩ := s_settle 1 h hst (by omega) (by omega) (by omega)
            have v1' : f_X12_settle (m : Int) 1 (rS m S F) = some (0, rS m S F1) := v1
            rw [v1', fcall_some]
            exact ⟨F1, rfl, w1, h1, p1, by show w1 + P'.length ≤ j; omega, hj, by show k' ≤ 8; omega, by show P'.length ≤ 150; omega⟩
        · rw [if_neg ho, if_neg (by omega), if_pos ho]
          exact fun _ _ => ⟨F, rfl, Pm_er h 1⟩
      · have j44 : tkB B L j ≠ 44 := fun z => hp9 (by
          unfold prt
          rw [z]
          (repeat' split) <;> first | rfl | (exfalso; omega))
        have jl := lt300 (B := B) hL j44
        rw [if_neg hp9, if_pos (by omega), if_neg hp9, r_cv R]
        cases hst : stl 1 P s k with
        | none => exact fun _ h2 => (by first | exact bad6 0 (Or.inl h2) | exact bad6 0 (Or.inr h2))
        | some q =>
          obtain ⟨P', s', k'⟩ := q
          obtain ⟨F1, w1, v1, h1, p1, q1, q2, q3⟩ := s_settle 1 h hst (by omega) (by omega) (by omega)
          obtain ⟨F2, v2, h2, l2⟩ := Pm_next h1
          have p12 : PF t0 w0 F F2 := PF_t p1 (PF_LX l2)
          have R2 := h2.1.1
          have v1' : f_X12_settle (m : Int) 1 (rS m S F) = some (0, rS m S F1) := v1
          rw [v1', fcall_some, r_cv h1.1.1, v2, fcall_some]
          show BhR m S B L t0 w0 law F _ r (if prt (opn P) (tkB B L j) P = 0 then fls (clo (tkB B L) j (opn P) s' P' k') else .ok (false, (j + 1, s', setO (prt (opn P) (tkB B L j) P) P', k', false)))
          by_cases hp0 : prt (opn P) (tkB B L j) P = 0
          · rw [if_pos (by omega), if_pos hp0]
            have eop : opn P ≠ 0 := fun z => by
              rw [z] at hp0
              exact absurd hp0 (by unfold prt; simp)
            refine BhR_st ?_
            unfold clo
            by_cases hc : P' = [] ∨ k' = 0
            · rw [if_pos hc]; exact StR_no (by omega)
            rw [if_neg hc]
            cases P' with
            | nil => exact absurd (Or.inl rfl) hc
            | cons o Q =>
              have k0 : k' ≠ 0 := fun z => hc (Or.inr z)
              rw [List.length_cons] at q1 q2
              rw [r_g R2, h2.2.1.2.2.2.2.1, w32_of (by omega) (by omega), r_p R2, show (k' : Int) - 1 = ((k' - 1 : Nat) : Int) by omega]
              have h3 : Pm m S B L t0 w0 law (va_up F2 0 (va_up (F2 0) 17 ((k' - 1 : Nat) : Int))) (j + 1) w1 s' (o :: Q) (k' - 1) 1 := Pm_0 h2 (by omega) (by rw [if_neg (by omega)]; exact h2.2.1.2.2.2.1) (if_pos rfl) (by rw [if_neg (by omega)]; exact h2.2.1.2.2.2.2.2) h2.2.2.2.1
              have p3 := PF_p t0 w0 F2 (k := 17) ((k' - 1 : Nat) : Int) (by omega)
              generalize va_up F2 0 (va_up (F2 0) 17 ((k' - 1 : Nat) : Int)) = F3 at *
              have R3 := h3.1.1
              have h16 := h3.2.1.2.2.2.1
              rw [List.length_cons] at h16
              rw [r_g R3, h16, w32_of (by omega) (by omega), r_p R3, show ((Q.length + 1 : Nat) : Int) - 1 = (Q.length : Int) by omega]
              have h4 : Pm m S B L t0 w0 law (va_up F3 0 (va_up (F3 0) 16 (Q.length : Int))) (j + 1) w1 s' Q (k' - 1) 1 := Pm_0 h3 (by omega) (if_pos rfl) (by rw [if_neg (by omega)]; exact h3.2.1.2.2.2.2.1) (by rw [if_neg (by omega)]; exact h3.2.1.2.2.2.2.2) h3.2.2.2.1.2
              have p4 := PF_p t0 w0 F3 (k := 16) (Q.length : Int) (by omega)
              generalize va_up F3 0 (va_up (F3 0) 16 (Q.length : Int)) = F4 at *
              have p14 := PF_t p12 (PF_t p3 p4)
              rw [if_neg eop]
              unfold f_X12_behindOne_b122
              show StR m S B L t0 w0 law F _ (if opn P = 44 then (match sx 3 0 s' with | none => .error (8, j) | some s2 => endO (tkB B L) (j + 1) s2 Q (k' - 1)) else endO (tkB B L) (j + 1) s' Q (k' - 1))
              by_cases o44 : opn P = 44
              · rw [if_pos (by omega), if_pos o44]
                cases hs : sx 3 0 s' with
                | none => exact StR_no (by omega)
                | some s2 =>
                  obtain ⟨F5, v5, h5, p5, _⟩ := Pm_emit h4 (by omega) hs (okc_0 3 law)
                  have v5' : f_X12_emit (m : Int) 3 0 (rS m S F4) = some (0, rS m S F5) := v5
                  rw [r_cv h4.1.1, v5', fcall_some, r_cv h5.1.1, f_id]
                  exact StR_pf (PF_t p14 p5) (s_endOne h5 (by omega) (by omega) (by omega) (by omega))
              · rw [if_neg (by omega), if_neg o44, r_cv h4.1.1, f_id]
                exact StR_pf p14 (s_endOne h4 (by omega) (by omega) (by omega) (by omega))
          · rw [if_neg (by omega), if_neg hp0, r_pl R2]
            have eop := stl_opn P hst
            have oi := opi_b P'
            have ne0 : opn P' ≠ 0 := fun z => by
              rw [eop] at z
              rw [z] at hp9
              exact hp9 (by unfold prt; simp)
            have oi' : 0 ≤ opi P' ∧ opi P' < (P'.length : Int) := by omega
            rw [r_cv R2, s_openAt R2 h2.2.1.2.2.2.1 h2.2.2.2.1 (by omega), fcall_some, rt_5 R2 oi'.1 (by omega)]
            have hps := setO_p (F2 5) (prt (opn P) (tkB B L j) P) P' h2.2.2.2.1 oi'.1
            have h3 : Pm m S B L t0 w0 law (va_up F2 5 (va_up (F2 5) (opi P').toNat (prt (opn P) (tkB B L j) P : Int))) (j + 1) w1 s' (setO (prt (opn P) (tkB B L j) P) P') k' 1 := by
              obtain ⟨⟨R, tp, t, ht⟩, g0, hw, hp, hc⟩ := h2
              have pf := PF_5 t0 w0 F2 (va_up (F2 5) (opi P').toNat (prt (opn P) (tkB B L j) P : Int))
              refine ⟨⟨PF_RI pf R, PF_TP tp pf, TokS_fr t (fun i _ _ => by rw [va_up_ne _ _ (by omega)]), ht⟩, ?_, hw, ?_, ?_⟩
              · rw [va_up_ne _ _ (by omega), setO_l]; exact g0
              · rw [va_up_self]; exact hps
              · rw [va_up_ne _ _ (by omega)]; exact hc
            have p3 := PF_5 t0 w0 F2 (va_up (F2 5) (opi P').toNat (prt (opn P) (tkB B L j) P : Int))
            generalize va_up F2 5 (va_up (F2 5) (opi P').toNat (prt (opn P) (tkB B L j) P : Int)) = F3 at *
            have h4 : Pm m S B L t0 w0 law (va_up F3 0 (va_up (F3 0) 18 0)) (j + 1) w1 s' (setO (prt (opn P) (tkB B L j) P) P') k' 0 := Pm_0 h3 (by omega) (by rw [if_neg (by omega)]; exact h3.2.1.2.2.2.1) (by rw [if_neg (by omega)]; exact h3.2.1.2.2.2.2.1) (if_pos rfl) h3.2.2.2.1
            rw [r_p h3.1.1, fcall_some]
            unfold f_X12_summed_b33
            rw [if_pos (by decide), if_pos rfl]
            exact ⟨_, rfl, w1, h4, PF_t p12 (PF_t p3 (PF_p t0 w0 F3 _ (by omega))), by show w1 + (setO _ P').length ≤ j + 1; rw [setO_l]; omega, by show j + 1 ≤ 300; omega, by show k' ≤ 8; omega, by show (setO _ P').length ≤ 150; rw [setO_l]; omega⟩
    · have j44 : tkB B L j ≠ 44 := fun z => hb (by
        unfold btw
        rw [z]
        (repeat' split) <;> first | rfl | (exfalso; omega))
      have jl := lt300 (B := B) hL j44
      rw [if_neg hb, if_neg (by omega), if_pos hb, s_rank, fcall_some]
      have push : ∀ least : Nat, least = (if rk (btw (tkB B L j) P) = 4 then 5 else rk (btw (tkB B L j) P)) → BhR m S B L t0 w0 law F (fcall (f_X12_behindOne_b26 (m : Int) (btw (tkB B L j) P : Int) (m : Int) (least : Int) (rS m S F)) (fun v11 S12 => f_X12_summed_b33 r (m : Int) v11 S12)) r (match stl (if rk (btw (tkB B L j) P) = 4 then 5 else rk (btw (tkB B L j) P)) P s k with
          | none => .error (8, j)
          | some (P', s', k') => if 150 ≤ P'.length then .error (9, j) else .ok (false, (j + 1, s', btw (tkB B L j) P :: P', k', false))) := fun least hle => by
        rw [← hle]
        cases hst : stl least P s k with
        | none => exact fun _ h2 => (by first | exact bad6 0 (Or.inl h2) | exact bad6 0 (Or.inr h2))
        | some q =>
          obtain ⟨P', s', k'⟩ := q
          show BhR m S B L t0 w0 law F _ r (if 150 ≤ P'.length then .error (9, j) else .ok (false, (j + 1, s', btw (tkB B L j) P :: P', k', false)))
          by_cases h150 : 150 ≤ P'.length
          · rw [if_pos h150]; exact fun _ h2 => (by first | exact bad6 0 (Or.inl h2) | exact bad6 0 (Or.inr h2))
          rw [if_neg h150]
          obtain ⟨F1, w1, v1, h1, p1, q1, q2, q3⟩ := s_settle least h hst (by omega) (by omega) (by omega)
          have R1 := h1.1.1
          unfold f_X12_behindOne_b26
          rw [r_cv R, v1, fcall_some, r_pl R1, r_g R1, h1.2.1.2.2.2.1, rt_5 R1 (by omega) (by omega), toNat_z]
          have hp2 := PlR_up (F1 5) (btw (tkB B L j) P : Int) P' P'.length (Nat.le_refl _) h1.2.2.2.1
          have h2 := Pm_5 h1 hp2
          have p2 := PF_5 t0 w0 F1 (va_up (F1 5) P'.length (btw (tkB B L j) P : Int))
          have e5 : va_up F1 5 (va_up (F1 5) P'.length (btw (tkB B L j) P : Int)) 5 P'.length = (btw (tkB B L j) P : Int) := by rw [va_up_self, va_up_self]
          generalize va_up F1 5 (va_up (F1 5) P'.length (btw (tkB B L j) P : Int)) = F2 at *
          have R2 := h2.1.1
          rw [r_g R2, h2.2.1.2.2.2.1, w32_of (by omega) (by omega), r_p R2, zs]
          have h3 : Pm m S B L t0 w0 law (va_up F2 0 (va_up (F2 0) 16 ((P'.length + 1 : Nat) : Int))) j w1 s' (btw (tkB B L j) P :: P') k' 1 := Pm_0 h2 (by omega) (by rw [if_pos rfl, List.length_cons]) (by rw [if_neg (by omega)]; exact h2.2.1.2.2.2.2.1) (by rw [if_neg (by omega)]; exact h2.2.1.2.2.2.2.2) ⟨e5, h2.2.2.2.1⟩
          have p3 := PF_p t0 w0 F2 (k := 16) ((P'.length + 1 : Nat) : Int) (by omega)
          generalize va_up F2 0 (va_up (F2 0) 16 ((P'.length + 1 : Nat) : Int)) = F3 at *
          have h4 : Pm m S B L t0 w0 law (va_up F3 0 (va_up (F3 0) 18 0)) j w1 s' (btw (tkB B L j) P :: P') k' 0 := Pm_0 h3 (by omega) (by rw [if_neg (by omega)]; exact h3.2.1.2.2.2.1) (by rw [if_neg (by omega)]; exact h3.2.1.2.2.2.2.1) (if_pos rfl) h3.2.2.2.1
          have p4 := PF_p t0 w0 F3 (k := 18) 0 (by omega)
          obtain ⟨F5, v5, h5, l5⟩ := Pm_next h4
          rw [r_p h3.1.1, r_cv h4.1.1, v5, fcall_some, fcall_some]
          unfold f_X12_summed_b33
          rw [if_pos (by decide), if_pos rfl]
          exact ⟨F5, rfl, w1, h5, PF_t p1 (PF_t p2 (PF_t p3 (PF_t p4 (PF_LX l5)))), by show w1 + (_ :: P').length ≤ j + 1; rw [List.length_cons]; omega, by show j + 1 ≤ 300; omega, by show k' ≤ 8; omega, by show (_ :: P').length ≤ 150; rw [List.length_cons]; omega⟩
      by_cases r4 : rk (btw (tkB B L j) P) = 4
      · rw [if_pos (by omega)]
        exact push 5 (by rw [if_pos r4])
      · rw [if_neg (by omega), s_rank, fcall_some]
        exact push _ (by rw [if_neg r4])
theorem s_sumLoop : ∀ (n N : Nat) (F : Nat → Nat → Int) (st : MS) (w : Nat) {res : Except (Nat × Nat) MS}, Pm m S B L t0 w0 law F st.1 w st.2.1 st.2.2.1 st.2.2.2.1 (if st.2.2.2.2 = true then 1 else 0) → w + st.2.2.1.length ≤ st.1 → st.1 ≤ 300 → st.2.2.2.1 ≤ 8 → st.2.2.1.length ≤ 150 → prun (tkB B L) (tvB B L) law n st = some res → n ≤ N → StR m S B L t0 w0 law F (jrep (fun _ _ => none) (fun r => f_X12_summed_b15B r) N (m : Int) (rS m S F)) res := by
  intro n
  induction n with
  | zero => intro N F st w res _ _ _ _ _ h; cases h
  | succ n ih =>
    intro N F st w res h hI hj hk hl hr hn
    obtain ⟨N, rfl⟩ : ∃ q, N = q + 1 := ⟨N - 1, by omega⟩
    obtain ⟨j, s, P, k, wl⟩ := st
    rw [jrep_s]
    have q := s_step h hI hj hk hl (jrep (fun _ _ => none) (fun r => f_X12_summed_b15B r) N)
    rw [prun] at hr
    cases hp : pst (tkB B L) (tvB B L) law (j, s, P, k, wl) with
    | error e =>
      rw [hp] at hr q
      injection hr with hr
      rw [← hr]
      exact q
    | ok b =>
      obtain ⟨b, st'⟩ := b
      rw [hp] at hr q
      cases b with
      | true =>
        injection hr with hr
        rw [← hr]
        exact q
      | false =>
        obtain ⟨F', v, w', h', p', i1, i2, i3, i4⟩ := q
        rw [v]
        exact StR_pf p' (ih N F' st' w' h' i1 i2 i3 i4 hr (by omega))
theorem s_summed (R : RI m S F) (tp : TP F B L) (t : TokS F B L (psn B L j)) (ht : t0 ≤ 2115) (h12 : F 0 12 = (t0 : Int)) (h13 : F 0 13 = (w : Int)) (h14 : F 0 14 = (law : Int)) (hw : w ≤ j) (hj : j ≤ 300) {n : Nat} {res : Except (Nat × Nat) MS} (hr : prun (tkB B L) (tvB B L) law n (j, ([], []), [], 0, false) = some res) (hn : n ≤ 5000) : StR m S B L t0 w law F (f_X12_summed (m : Int) (rS m S F)) res := by
  unfold f_X12_summed f_X12_summed_b15
  rw [r_p R]
  have p1 := PF_p t0 w F (k := 16) 0 (by omega)
  have R1 := PF_RI p1 R
  rw [r_p R1]
  have p2 := PF_p t0 w (va_up F 0 (va_up (F 0) 16 0)) (k := 17) 0 (by omega)
  have R2 := PF_RI p2 R1
  rw [r_p R2]
  have p3 := PF_p t0 w (va_up (va_up F 0 (va_up (F 0) 16 0)) 0 (va_up (va_up F 0 (va_up (F 0) 16 0) 0) 17 0)) (k := 18) 0 (by omega)
  have R3 := PF_RI p3 R2
  have p := PF_t p1 (PF_t p2 p3)
  refine StR_pf p (s_sumLoop n jN _ (j, ([], []), [], 0, false) w ⟨⟨R3, PF_TP tp p, TokS_fr t (fun i h1 h2 => ?_), ht⟩, ⟨?_, ?_, ?_, ?_, ?_, ?_⟩, Nat.le_refl _, trivial, ?_⟩ (by show w + 0 ≤ j; omega) hj (by show 0 ≤ 8; omega) (by show 0 ≤ 150; omega) hr (by unfold jN; omega))
  · rw [up0, if_neg (by omega), up0, if_neg (by omega), up0, if_neg (by omega)]
  · rw [up0, if_neg (by omega), up0, if_neg (by omega), up0, if_neg (by omega), h12]
  · rw [up0, if_neg (by omega), up0, if_neg (by omega), up0, if_neg (by omega), h13]
  · rw [up0, if_neg (by omega), up0, if_neg (by omega), up0, if_neg (by omega), h14]
  · rw [up0, if_neg (by omega), up0, if_neg (by omega), up0, if_pos rfl]; rfl
  · rw [up0, if_neg (by omega), up0, if_pos rfl]; rfl
  · rw [up0, if_pos rfl]; rfl
  · rw [Nat.sub_self]; rfl
end RP5
