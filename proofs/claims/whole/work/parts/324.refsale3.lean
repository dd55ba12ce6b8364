def RE (m : Nat) (S : jSt) (V : LwV) (F F' : Nat → Nat → Int) (a' : Nat → Int) (c : Int) : Prop := RR m S V F' ∧ F' 1 = a' ∧ (0 ≤ F 0 24 → F 0 24 + c ≤ 2147483647 → F' 0 24 = F 0 24 + c) ∧ (∀ k, k ≠ 24 → F' 0 k = F 0 k) ∧ ∀ i, i ≠ 0 → i ≠ 1 → i ≠ 6 → i ≠ 7 → i ≠ 8 → F' i = F i
section RS3
variable {m : Nat} {S : jSt} {V : LwV} {F : Nat → Nat → Int}
theorem RR_of {F' : Nat → Nat → Int} {a' : Nat → Int} (h : RR m S V F) (R : RI m S F') (h3 : F' 3 = F 3) (e : F' 1 = a') (W : Wf a') (h2 : a' 2 = F 1 2) : RR m S V F' := by
  refine ⟨R, by rw [e]; exact W, ?_⟩
  rw [h3, e, h2]
  exact h.2.2
theorem RE_q {F' : Nat → Nat → Int} (h : RR m S V F) (R : RI m S F') (hf : ∀ i, i ≠ 6 → i ≠ 7 → i ≠ 8 → F' i = F i) : RE m S V F F' (F 1) 0 := by
  have h0 := hf 0 (by decide) (by decide) (by decide)
  refine ⟨RR_fr h R (fun i _ q1 q2 q3 => hf i q1 q2 q3), hf 1 (by decide) (by decide) (by decide), fun _ _ => by rw [h0, Int.add_zero], fun k _ => by rw [h0], fun i _ _ q1 q2 q3 => hf i q1 q2 q3⟩
theorem RE_t {F1 F2 : Nat → Nat → Int} {a1 a2 : Nat → Int} {c1 c2 c : Int} (h1 : RE m S V F F1 a1 c1) (h2 : RE m S V F1 F2 a2 c2) (n1 : 0 ≤ c1) (n2 : 0 ≤ c2) (hc : c1 + c2 = c) : RE m S V F F2 a2 c := by
  obtain ⟨r1, e1, s1, g1, f1⟩ := h1
  obtain ⟨r2, e2, s2, g2, f2⟩ := h2
  refine ⟨r2, e2, fun p0 p1 => ?_, fun k hk => (g2 k hk).trans (g1 k hk), fun i q0 q1 q2 q3 q4 => (f2 i q0 q1 q2 q3 q4).trans (f1 i q0 q1 q2 q3 q4)⟩
  have e := s1 p0 (by omega)
  rw [s2 (by omega) (by omega), e]
  omega
/-- the array alone changes -/
theorem RE_a {a' : Nat → Int} (h : RR m S V F) (W : Wf a') (h2 : a' 2 = F 1 2) : RE m S V F (va_up F 1 a') a' 0 := by
  refine ⟨RR_of h (rU h.1 _) (va_up_ne _ _ (by decide)) (va_up_self _ _ _) W h2, va_up_self _ _ _, fun _ _ => ?_, fun k _ => ?_, fun i _ q _ _ _ => va_up_ne _ _ q⟩
  · rw [va_up_ne _ _ (by decide), Int.add_zero]
  · rw [va_up_ne _ _ (by decide)]
theorem w3n (w : Nat) : 3 + (w : Int) = ((3 + w : Nat) : Int) := by omega
theorem s_sellNow {wr : Bool} (h : RR m S V F) (hwr : F 0 23 = if wr = true then 1 else 0) {l : Nat} (hl : (l : Int) < F 1 0) : ∃ F', f_X12_sellNow (m : Int) (l : Int) (rS m S F) = some (if winv (F 1) V l = -1 then -1 else pricev (F 1) V l, rS m S F') ∧ RE m S V F F' (selA wr (F 1) V l) (if winv (F 1) V l = -1 then 0 else 1) := by
  have h0 := h
  obtain ⟨R, W, L⟩ := h
  obtain ⟨w0, w1, w2, w3, w4, w7, w8, w9, w10⟩ := W.1
  obtain ⟨F1, v1, R1, f1⟩ := s_winnerOf h0 hl
  unfold f_X12_sellNow selA
  rw [r_cv R, v1, fcall_some]
  have k1 := RE_q h0 R1 f1
  have e1 : F1 1 = F 1 := k1.2.1
  by_cases hw : winv (F 1) V l = -1
  · rw [if_pos hw, if_pos hw, if_pos hw, if_pos hw]
    exact ⟨F1, rfl, k1⟩
  · rw [if_neg hw, if_neg hw, if_neg hw, if_neg hw]
    obtain ⟨n1, n2, n3, n4⟩ := (winv_n (V := V) W l).resolve_left hw
    obtain ⟨F2, v2, R2, f2⟩ := s_priceOf k1.1 (l := l) (by rw [e1]; exact hl) (by rw [e1]; exact hw)
    rw [e1] at v2
    have k2 := RE_t k1 (RE_q k1.1 R2 f2) (Int.le_refl _) (Int.le_refl _) (c := 0) rfl
    have e2 : F2 1 = F 1 := by rw [k2.2.1, e1]
    have W3 : Wf (soldA false (F 1) l (winv (F 1) V l).toNat (pricev (F 1) V l)) := Wf_sold false W hl (by omega) ⟨n3, n4⟩
    have W4 : Wf (soldA wr (F 1) l (winv (F 1) V l).toNat (pricev (F 1) V l)) := Wf_sold wr W hl (by omega) ⟨n3, n4⟩
    rw [r_cv R1, v2, fcall_some]
    generalize hp : pricev (F 1) V l = p at *
    obtain ⟨w, ew⟩ : ∃ w : Nat, winv (F 1) V l = (w : Int) := ⟨(winv (F 1) V l).toNat, by omega⟩
    rw [ew] at n1 n2 n4 hw W3 W4 ⊢
    rw [toNat_z] at *
    have wb := W.2.2 w n2
    have J := fun v => rU R2 v
    rw [r_cv R2, s_own R2 (by omega) (by omega) (by omega) (by omega), fcall_some, toNat_z, e2, show 71 + 14 * w + (0 : Int).toNat = 71 + 14 * w from rfl, w32_of (z := F 1 (71 + 14 * w) - p) (by omega) (by omega), r_cv R2, s_lay R2 (by omega) (by omega) (by omega) (by omega), fcall_some, toNat_z, e2, show 71 + 14 * w + (0 : Int).toNat = 71 + 14 * w from rfl, r_a (J _), r_a (J _), r_al (J _) (by omega) (by omega), va_up_self, show (8 : Int).toNat = 8 from rfl, va_up_ne _ _ (show 8 ≠ 71 + 14 * w by omega), w32_of (z := F 1 8 + p) (by omega) (by omega), held_clp (by omega), fcall_some, r_st (J _) (by omega) (by omega), va_up_self, va_uu, show (8 : Int).toNat = 8 from rfl, r_cv (J _), w32_of (z := 3 + (w : Int)) (by omega) (by omega), s_put (J _) (by omega) (by omega) (by omega) (by omega), fcall_some, va_up_self, va_uu, toNat_z, show 11 + 5 * l + (1 : Int).toNat = 12 + 5 * l by omega]
    have e3 : va_up (va_up (va_up (F 1) (71 + 14 * w) (F 1 (71 + 14 * w) - p)) 8 (clp 99999 (F 1 8 + p))) (12 + 5 * l) (3 + (w : Int)) = soldA false (F 1) l w p := by
      unfold soldA
      rw [if_neg (by decide)]
    have e4 : (if wr = true then bookA (soldA false (F 1) l w p) l w p else soldA false (F 1) l w p) = soldA wr (F 1) l w p := by
      rw [← e3]
      rfl
    rw [e3]
    generalize hA : soldA false (F 1) l w p = A at *
    have a2 : A 2 = F 1 2 := by rw [← hA]; exact soldA_lo false (F 1) l w p (by omega)
    have k3 : RE m S V F (va_up F2 1 A) A 0 := RE_t k2 (RE_a k2.1 W3 (by rw [a2, e2])) (Int.le_refl _) (Int.le_refl _) rfl
    have R3 := k3.1.1
    rw [r_g R3, r_p R3]
    have R4 := RI_up0 R3 (k := 24) (z := w32 (va_up F2 1 A 0 24 + 1)) (by decide)
    have k4 : RE m S V F (va_up (va_up F2 1 A) 0 (va_up (va_up F2 1 A 0) 24 (w32 (va_up F2 1 A 0 24 + 1)))) A 1 := by
      refine ⟨RR_of k3.1 R4 (by rw [va_up_ne _ _ (by decide)]) (by rw [va_up_ne _ _ (by decide), va_up_self]) W3 (by rw [va_up_self]), by rw [va_up_ne _ _ (by decide), va_up_self], fun p0 p1 => ?_, fun k hk => ?_, fun i q0 q1 q2 q3 q4 => ?_⟩
      · rw [va_up_self, va_up_self, k3.2.2.1 p0 (by omega), Int.add_zero, w32_of (by omega) (by omega)]
      · rw [va_up_self, va_up_ne _ _ hk]
        exact k3.2.2.2.1 k hk
      · rw [va_up_ne _ _ q0]
        exact k3.2.2.2.2 i q0 q1 q2 q3 q4
    generalize hF4 : va_up (va_up F2 1 A) 0 (va_up (va_up F2 1 A 0) 24 (w32 (va_up F2 1 A 0 24 + 1))) = F4 at *
    have e41 : F4 1 = A := k4.2.1
    have e423 : F4 0 23 = if wr = true then 1 else 0 := by rw [k4.2.2.2.1 23 (by decide), hwr]
    rw [r_cv R4, s_write R4 (by rw [e41]; exact W3) e423 (by omega) (by omega), fcall_some, e41, e4]
    refine ⟨_, rfl, RE_t k4 (RE_a k4.1 W4 ?_) (by omega) (Int.le_refl _) rfl⟩
    rw [e41, soldA_lo wr (F 1) l w p (by omega), a2]
theorem s_anew (h : RR m S V F) : f_X12_anew (m : Int) (rS m S F) = some (0, rA m S F (anewA (F 1))) := by
  obtain ⟨R, W, L⟩ := h
  obtain ⟨w0, w1, w2, w3, w4, w7, w8, w9, w10⟩ := W.1
  unfold f_X12_anew anewA
  rw [r_a R, r_a R, r_al R (by omega) (by omega), if_neg (by decide), show (9 : Int).toNat = 9 from rfl, w64_of (z := F 1 9 * 449) (by omega) (by omega), w64_of (z := F 1 9 * 449 + 337) (by omega) (by omega), lrem_n (by omega) (by omega) (by omega) (by omega), w32_of (by omega) (by omega), r_st R (by omega) (by omega), show (9 : Int).toNat = 9 from rfl]
theorem s_offer {wr : Bool} (h : RR m S V F) (hwr : F 0 23 = if wr = true then 1 else 0) {l : Nat} (hl : (l : Int) < F 1 0) : ∃ F', f_X12_offer (m : Int) (l : Int) (rS m S F) = some (0, rS m S F') ∧ RE m S V F F' (if F 1 1 = 0 then F 1 else selA wr (warmA (F 1) V l) V l) (if F 1 1 = 0 then 0 else if winv (warmA (F 1) V l) V l = -1 then 0 else 1) := by
  have h0 := h
  obtain ⟨R, W, L⟩ := h
  obtain ⟨w0, w1, w2, w3, w4, w7, w8, w9, w10⟩ := W.1
  unfold f_X12_offer f_X12_offer_b74
  rw [r_a R, r_al R (by omega) (by omega), show (1 : Int).toNat = 1 from rfl]
  by_cases hb : F 1 1 = 0
  · rw [if_pos hb, if_pos hb, if_pos hb]
    exact ⟨F, rfl, RE_q h0 R (fun _ _ _ _ => rfl)⟩
  · rw [if_neg hb, if_neg hb, if_neg hb, r_a R, r_al R (by omega) (by omega), if_neg (by decide), show (9 : Int).toNat = 9 from rfl, irem_n (by omega) (by omega) (by omega) (by omega), flet_eq, r_cv R, s_anew h0, fcall_some]
    have k1 : RE m S V F (va_up F 1 (anewA (F 1))) (anewA (F 1)) 0 := RE_a h0 (Wf_anew W) rfl
    have R1 := k1.1.1
    have hm : 0 ≤ F 1 9 % 10 % F 1 1 ∧ F 1 9 % 10 % F 1 1 < F 1 1 := ⟨Int.emod_nonneg _ hb, Int.emod_lt_of_pos _ (by omega)⟩
    rw [r_a R1, r_al R1 (by omega) (by omega), va_up_self, show (1 : Int).toNat = 1 from rfl, show anewA (F 1) 1 = F 1 1 from rfl, if_neg hb, irem_n (by omega) (by omega) (by omega) (by omega), flet_eq, r_a R1, r_al R1 (by omega) (by omega), va_up_self, show (3 : Int).toNat = 3 from rfl, show anewA (F 1) 3 = F 1 3 from rfl, r_cv R1]
    obtain ⟨F2, v2, R2, f2⟩ := s_warmsOf k1.1 (l := l) (by rw [va_up_self]; exact hl) (t := F 1 3) (by rw [va_up_self]; exact w3)
    rw [va_up_self] at v2
    have k2 := RE_t k1 (RE_q k1.1 R2 f2) (Int.le_refl _) (Int.le_refl _) (c := 0) rfl
    have e2 : F2 1 = anewA (F 1) := by rw [k2.2.1, va_up_self]
    rw [v2, fcall_some]
    have Ww := Wf_warm V W (l := l) hl (by omega)
    have w02 : warmA (F 1) V l 2 = F 1 2 := warmA_lo _ _ _ (by omega) (by omega)
    have w00 : warmA (F 1) V l 0 = F 1 0 := warmA_lo _ _ _ (by omega) (by omega)
    have fin : ∀ F3, RE m S V F F3 (warmA (F 1) V l) 0 → ∃ F', (fcallv (rS m S F3) (m : Int) 12 (f_X12_sellNow (m : Int) (l : Int) (rS m S F3)) (fun v15 S16 => some (0, S16))) = some (0, rS m S F') ∧ RE m S V F F' (selA wr (warmA (F 1) V l) V l) (if winv (warmA (F 1) V l) V l = -1 then 0 else 1) := by
      intro F3 k3
      obtain ⟨F4, v4, k4⟩ := s_sellNow (wr := wr) k3.1 (by rw [k3.2.2.2.1 23 (by decide), hwr]) (l := l) (by rw [k3.2.1, w00]; exact hl)
      rw [k3.2.1] at k4 v4
      rw [r_cv k3.1.1, v4, fcall_some]
      exact ⟨F4, rfl, RE_t k3 k4 (Int.le_refl _) (by split <;> omega) (by omega)⟩
    by_cases q : F 1 9 % 10 < wrmv (anewA (F 1)) V (F 1 3) l
    · obtain ⟨b, eb⟩ : ∃ b : Nat, F 1 9 % 10 % F 1 1 = (b : Int) := ⟨(F 1 9 % 10 % F 1 1).toNat, by omega⟩
      have e9 : warmA (F 1) V l = va_up (anewA (F 1)) (72 + 14 * b + l) (clp 99 (F 1 (72 + 14 * b + l) + 5)) := by
        unfold warmA
        rw [if_pos q, eb, toNat_z]
      have wb := (W.2.2 b (by omega)).2 l (by omega)
      have e8 : anewA (F 1) (72 + 14 * b + l) = F 1 (72 + 14 * b + l) := by unfold anewA; rw [va_up_ne _ _ (by omega)]
      rw [eb, if_neg (by omega), r_cv R2, w32_of (z := 1 + (l : Int)) (by omega) (by omega), s_own R2 (by omega) (by omega) (by omega) (by omega), fcall_some, e2, toNat_z, show 71 + 14 * b + (1 + (l : Int)).toNat = 72 + 14 * b + l by omega, e8, w32_of (by omega) (by omega), held_clp (by omega), fcall_some, r_cv R2, s_lay R2 (by omega) (by omega) (by omega) (by omega), fcall_some, e2, toNat_z, show 71 + 14 * b + (1 + (l : Int)).toNat = 72 + 14 * b + l by omega, ← e9]
      exact fin _ (RE_t k2 (RE_a k2.1 Ww (by rw [w02, e2]; rfl)) (Int.le_refl _) (Int.le_refl _) rfl)
    · have e9 : warmA (F 1) V l = anewA (F 1) := by
        unfold warmA
        rw [if_neg q]
      rw [if_pos (by omega)]
      refine fin F2 ?_
      rw [e9]
      have := k2
      rw [va_up_self] at this
      exact this
theorem s_pass {wr : Bool} (h : RR m S V F) (hwr : F 0 23 = if wr = true then 1 else 0) (h7 : F 1 7 < 9999) : ∃ F', f_X12_pass (m : Int) (rS m S F) = some (0, rS m S F') ∧ RE m S V F F' (pasA wr V (F 1)) (pasN wr V (F 1)) := by
  have h0 := h
  obtain ⟨R, W, L⟩ := h
  obtain ⟨w0, w1, w2, w3, w4, w7, w8, w9, w10⟩ := W.1
  unfold f_X12_pass f_X12_pass_b7
  rw [r_cv R, s_saleFloor R, fcall_some]
  have hcount : ∀ n, 0 ≤ (pasS wr V (sfl (F 1)) (F 1) n).2 := by
    intro n
    induction n with
    | zero => exact Int.le_refl _
    | succ n ih =>
      unfold pasS
      split
      · show 0 ≤ (if winv (warmA (pasS wr V (sfl (F 1)) (F 1) n).1 V n) V n = -1 then (pasS wr V (sfl (F 1)) (F 1) n).2 else (pasS wr V (sfl (F 1)) (F 1) n).2 + 1)
        split <;> omega
      · exact ih
  refine lpe (fun (r : Int → Int → Int → fK) i (c : Nat → Nat → Int) => r (m : Int) (sfl (F 1)) (i : Int) (rS m S c)) (fun i c => RE m S V F c (pasS wr V (sfl (F 1)) (F 1) i).1 (pasS wr V (sfl (F 1)) (F 1) i).2) (fun r => ∃ F', r = some (0, rS m S F') ∧ RE m S V F F' (pasA wr V (F 1)) (pasN wr V (F 1))) (N := (F 1 0).toNat) ?_ ?_ jN 0 F (by omega) (by unfold jN; omega) (RE_q h0 R (fun _ _ _ _ => rfl))
  · intro r i c hi kc ih
    show ∃ F', f_X12_pass_b7B r _ _ _ _ = _ ∧ _
    unfold f_X12_pass_b7B f_X12_pass_b40
    have p0 : (pasS wr V (sfl (F 1)) (F 1) i).1 0 = F 1 0 := pasS_lo wr V _ _ (by omega) i
    have p1 : (pasS wr V (sfl (F 1)) (F 1) i).1 1 = F 1 1 := pasS_lo wr V _ _ (by omega) i
    have hcnt := hcount i
    have est : pasS wr V (sfl (F 1)) (F 1) (i + 1) = if (pasS wr V (sfl (F 1)) (F 1) i).1 (12 + 5 * i) = 0 ∧ (pasS wr V (sfl (F 1)) (F 1) i).1 (11 + 5 * i) = sfl (F 1) ∧ ¬ F 1 1 = 0 then (selA wr (warmA (pasS wr V (sfl (F 1)) (F 1) i).1 V i) V i, if winv (warmA (pasS wr V (sfl (F 1)) (F 1) i).1 V i) V i = -1 then (pasS wr V (sfl (F 1)) (F 1) i).2 else (pasS wr V (sfl (F 1)) (F 1) i).2 + 1) else pasS wr V (sfl (F 1)) (F 1) i := by
      conv => lhs; unfold pasS
    generalize hp : pasS wr V (sfl (F 1)) (F 1) i = p at *
    have Rc := kc.1.1
    have ec : c 1 = p.1 := kc.2.1
    rw [r_a Rc, r_al Rc (by omega) (by omega), ec, show (0 : Int).toNat = 0 from rfl, p0, if_neg (by omega), r_cv Rc, s_isInHouse Rc (by rw [ec, p0]; exact w0), fcall_some, if_b01, ec, p0, toNat_z]
    simp only [flet_eq]
    rw [w32_of (z := (i : Int) + 1) (by omega) (by omega), zs]
    by_cases q : p.1 (12 + 5 * i) = 0
    · rw [if_pos ⟨⟨by omega, by omega⟩, q⟩, r_cv Rc, s_get Rc (by omega) (by omega) (by omega) (by omega), fcall_some, ec, toNat_z, show 11 + 5 * i + (0 : Int).toNat = 11 + 5 * i from rfl]
      by_cases q2 : p.1 (11 + 5 * i) = sfl (F 1)
      · obtain ⟨c2, v2, k2⟩ := s_offer (wr := wr) kc.1 (by rw [kc.2.2.2.1 23 (by decide), hwr]) (l := i) (by rw [ec, p0]; omega)
        rw [ec, p1] at k2
        rw [if_pos q2, r_cv Rc, v2, fcall_some]
        refine ih c2 ?_
        rw [est]
        by_cases q3 : F 1 1 = 0
        · rw [if_neg (fun z => z.2.2 q3)]
          rw [if_pos q3, if_pos q3] at k2
          exact RE_t kc k2 hcnt (Int.le_refl _) (by omega)
        · rw [if_pos ⟨q, q2, q3⟩]
          rw [if_neg q3, if_neg q3] at k2
          refine RE_t kc k2 hcnt (by split <;> omega) ?_
          show p.2 + (if winv (warmA p.1 V i) V i = -1 then 0 else 1) = if winv (warmA p.1 V i) V i = -1 then p.2 else p.2 + 1
          split <;> omega
      · rw [if_neg q2]
        refine ih c ?_
        rw [est, if_neg (fun z => q2 z.2.1)]
        exact kc
    · rw [if_neg (fun z => q z.2)]
      refine ih c ?_
      rw [est, if_neg (fun z => q z.1)]
      exact kc
  · intro r c kc
    show ∃ F', f_X12_pass_b7B r _ _ _ _ = _ ∧ _
    unfold f_X12_pass_b7B
    have p0 : (pasS wr V (sfl (F 1)) (F 1) (F 1 0).toNat).1 0 = F 1 0 := pasS_lo wr V _ _ (by omega) _
    have p7 : (pasS wr V (sfl (F 1)) (F 1) (F 1 0).toNat).1 7 = F 1 7 := pasS_lo wr V _ _ (by omega) _
    have p2 : (pasS wr V (sfl (F 1)) (F 1) (F 1 0).toNat).1 2 = F 1 2 := pasS_lo wr V _ _ (by omega) _
    have Rc := kc.1.1
    have ec := kc.2.1
    rw [r_a Rc, r_al Rc (by omega) (by omega), ec, show (0 : Int).toNat = 0 from rfl, p0, if_pos (by omega), r_a Rc, r_al Rc (by omega) (by omega), ec, show (7 : Int).toNat = 7 from rfl, p7, w32_of (by omega) (by omega), r_st Rc (by omega) (by omega), ec, show (7 : Int).toNat = 7 from rfl]
    refine ⟨_, rfl, ?_⟩
    have k := RE_a kc.1 (a' := pasA wr V (F 1)) (Wf_pas wr V W h7) (by rw [ec]; unfold pasA; rw [va_up_ne _ _ (by decide)])
    exact RE_t kc k (hcount _) (Int.le_refl _) (by show _ = pasN wr V (F 1); unfold pasN; omega)
end RS3
