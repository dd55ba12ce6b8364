section RS4
variable {m : Nat} {S : jSt} {V : LwV} {F : Nat → Nat → Int}
theorem s_canSell (R : RI m S F) (W : WfN (F 1)) (l : Int) : f_X12_canSell (m : Int) l (rS m S F) = some (b01 ((0 ≤ l ∧ l < F 1 0) ∧ F 1 (12 + 5 * l.toNat) = 0 ∧ 0 < F 1 1), rS m S F) := by
  unfold f_X12_canSell f_X12_canSell_b21 f_X12_canSell_b22
  rw [r_cv R, s_isInHouse R W.1, fcall_some, if_b01]
  by_cases h : (0 ≤ l ∧ l < F 1 0) ∧ F 1 (12 + 5 * l.toNat) = 0
  · rw [if_pos h, r_a R, r_al R (by omega) (by omega), show (1 : Int).toNat = 1 from rfl]
    unfold b01
    by_cases h2 : F 1 1 ≤ 0
    · rw [if_pos h2, if_neg (by omega)]
    · rw [if_neg h2, if_pos ⟨h.1, h.2, by omega⟩]
  · rw [if_neg h]
    unfold b01
    rw [if_neg (fun q => h ⟨q.1, q.2.1⟩)]
theorem s_canCarry (R : RI m S F) (W : WfN (F 1)) (l : Int) : f_X12_canCarry (m : Int) l (rS m S F) = some (bb (canCarryP (F 1) l), rS m S F) := by
  unfold f_X12_canCarry f_X12_canCarry_b35 f_X12_canCarry_b36
  have w0 := W.1
  rw [r_cv R, s_isInHouse R w0, fcall_some, if_b01]
  by_cases h : (0 ≤ l ∧ l < F 1 0) ∧ F 1 (12 + 5 * l.toNat) = 0
  · rw [if_pos h, r_cv R, s_get R (by omega) (by omega) (by omega) (by omega), fcall_some, r_cv R, s_saleFloor R, fcall_some, show 11 + 5 * l.toNat + (0 : Int).toNat = 11 + 5 * l.toNat from rfl]
    by_cases h3 : sfl (F 1) < F 1 (11 + 5 * l.toNat)
    · rw [if_pos h3, bb_f (fun q => by have := q.2.2.1; omega)]
    · rw [if_neg h3, r_cv R, s_get R (by omega) (by omega) (by omega) (by omega), fcall_some, show 11 + 5 * l.toNat + (0 : Int).toNat = 11 + 5 * l.toNat from rfl]
      by_cases h4 : 5 ≤ F 1 (11 + 5 * l.toNat)
      · rw [if_pos h4, bb_f (fun q => by have := q.2.2.2; omega)]
      · rw [if_neg h4, bb_t ⟨h.1, h.2, by omega, by omega⟩]
  · rw [if_neg h, bb_f (fun q => h ⟨q.1, q.2.1⟩)]
theorem s_canBurn (R : RI m S F) (W : WfN (F 1)) (l : Int) : f_X12_canBurn (m : Int) l (rS m S F) = some (bb (canBurnP (F 1) l), rS m S F) := by
  unfold f_X12_canBurn f_X12_canBurn_b22 f_X12_canBurn_b23
  have w0 := W.1
  rw [r_cv R, s_isLot R w0, fcall_some, if_b01]
  by_cases h : 0 ≤ l ∧ l < F 1 0
  · rw [if_pos h, r_cv R, s_get R (by omega) (by omega) (by omega) (by omega), fcall_some, show 11 + 5 * l.toNat + (1 : Int).toNat = 12 + 5 * l.toNat by omega]
    by_cases h3 : 1 < F 1 (12 + 5 * l.toNat)
    · rw [if_pos h3, bb_f (fun q => by have := q.2; omega)]
    · rw [if_neg h3, bb_t ⟨h, by omega⟩]
  · rw [if_neg h, bb_f (fun q => h q.1)]
theorem s_canBuy (R : RI m S F) (W : Wf (F 1)) (l p : Int) : f_X12_canBuy (m : Int) l p (rS m S F) = some (bb (canBuyP (F 1) l p), rS m S F) := by
  unfold f_X12_canBuy f_X12_canBuy_b40 f_X12_canBuy_b66
  have w0 := W.1.1
  have w1 := W.1.2.1
  rw [r_cv R, s_isLot R w0, fcall_some, if_b01]
  by_cases h : 0 ≤ l ∧ l < F 1 0
  · have wl := W.2.1 l.toNat (nlt h.1 h.2)
    rw [if_pos h, r_cv R, s_get R (by omega) (by omega) (by omega) (by omega), fcall_some, show 11 + 5 * l.toNat + (1 : Int).toNat = 12 + 5 * l.toNat by omega]
    by_cases h2 : F 1 (12 + 5 * l.toNat) < 3
    · rw [if_pos h2, bb_f (fun q => by have := q.2.1; omega)]
    · rw [if_neg h2, s_isIn, fcall_some, if_b01]
      by_cases h3 : 0 ≤ p ∧ p ≤ 999
      · rw [if_pos h3, r_a R, r_al R (by omega) (by omega), show (8 : Int).toNat = 8 from rfl]
        by_cases h4 : p ≤ F 1 8
        · rw [if_pos h4, r_cv R, s_get R (by omega) (by omega) (by omega) (by omega), fcall_some, show 11 + 5 * l.toNat + (1 : Int).toNat = 12 + 5 * l.toNat by omega, r_cv R, w32_of (z := F 1 (12 + 5 * l.toNat) - 3) (by omega) (by omega), w32_of (z := 1 + l) (by omega) (by omega), s_own R (by omega) (by omega) (by omega) (by omega), fcall_some, show 71 + 14 * (F 1 (12 + 5 * l.toNat) - 3).toNat + (1 + l).toNat = 72 + 14 * (F 1 (12 + 5 * l.toNat) - 3).toNat + l.toNat by omega]
          by_cases h5 : p < F 1 (72 + 14 * (F 1 (12 + 5 * l.toNat) - 3).toNat + l.toNat)
          · rw [if_pos h5, bb_f (fun q => by have := q.2.2.2.2; omega)]
          · rw [if_neg h5, bb_t ⟨h, by omega, h3, h4, by omega⟩]
        · rw [if_neg h4, bb_f (fun q => h4 q.2.2.2.1)]
      · rw [if_neg h3, bb_f (fun q => h3 q.2.2.1)]
  · rw [if_neg h, bb_f (fun q => h q.1)]
theorem s_buyNow (h : RR m S V F) {l : Nat} {p : Int} (hc : canBuyP (F 1) l p) : f_X12_buyNow (m : Int) (l : Int) p (rS m S F) = some (0, rA m S F (buyA (F 1) l p)) := by
  obtain ⟨R, W, L⟩ := h
  obtain ⟨c1, c2, c3, c4, c5⟩ := hc
  rw [toNat_z] at c2 c5
  obtain ⟨w0, w1, w2, w3, w4, w7, w8, w9, w10⟩ := W.1
  have wl := W.2.1 l c1.2
  unfold f_X12_buyNow buyA
  obtain ⟨b, eb⟩ : ∃ b : Nat, F 1 (12 + 5 * l) - 3 = (b : Int) := ⟨(F 1 (12 + 5 * l) - 3).toNat, by omega⟩
  have wb := W.2.2 b (by omega)
  have J := fun v => rU R v
  rw [r_cv R, s_get R (by omega) (by omega) (by omega) (by omega), fcall_some, toNat_z, show 11 + 5 * l + (1 : Int).toNat = 12 + 5 * l by omega, flet_eq, w32_of (z := F 1 (12 + 5 * l) - 3) (by omega) (by omega), eb, toNat_z, r_a R, r_al R (by omega) (by omega), show (8 : Int).toNat = 8 from rfl, w32_of (z := F 1 8 - p) (by omega) (by omega), r_st R (by omega) (by omega), show (8 : Int).toNat = 8 from rfl, r_cv (J _), s_own (J _) (by omega) (by omega) (by omega) (by omega), fcall_some, va_up_self, toNat_z, show 71 + 14 * b + (0 : Int).toNat = 71 + 14 * b from rfl, va_up_ne _ _ (show 71 + 14 * b ≠ 8 by omega), w32_of (z := F 1 (71 + 14 * b) + p) (by omega) (by omega), held_clp (by omega), fcall_some, r_cv (J _), s_lay (J _) (by omega) (by omega) (by omega) (by omega), fcall_some, va_up_self, va_uu, toNat_z, show 71 + 14 * b + (0 : Int).toNat = 71 + 14 * b from rfl, r_cv (J _), s_put (J _) (by omega) (by omega) (by omega) (by omega), fcall_some, va_up_self, va_uu, toNat_z, show 11 + 5 * l + (1 : Int).toNat = 12 + 5 * l by omega]
theorem buyA_lo (a : Nat → Int) (l : Nat) (p : Int) {k : Nat} (h : k < 8) : buyA a l p k = a k := by
  unfold buyA
  simp (disch := omega) only [va_up_ne]
/-- one draw: the number drawn is turned first -/
theorem s_year {wr : Bool} (h : RR m S V F) (hwr : F 0 23 = if wr = true then 1 else 0) : ∃ F' c, fcallv (rS m S F) (m : Int) 12 (f_X12_anew (m : Int) (rS m S F)) (fun _ S2 => fcallv S2 (m : Int) 12 (f_X12_happens (m : Int) (F 1 9) S2) (fun _ S4 => some (0, S4))) = some (0, rS m S F') ∧ 0 ≤ c ∧ RE m S V F F' (yearA wr V (F 1)) c := by
  have h0 := h
  obtain ⟨R, W, L⟩ := h
  obtain ⟨w0, w1, w2, w3, w4, w7, w8, w9, w10⟩ := W.1
  have k1 : RE m S V F (va_up F 1 (anewA (F 1))) (anewA (F 1)) 0 := RE_a h0 (Wf_anew W) rfl
  have R1 := k1.1.1
  have W1 : Wf (anewA (F 1)) := Wf_anew W
  have e1 : va_up F 1 (anewA (F 1)) 1 = anewA (F 1) := va_up_self _ _ _
  have hw1 : va_up F 1 (anewA (F 1)) 0 23 = if wr = true then 1 else 0 := by rw [k1.2.2.2.1 23 (by decide), hwr]
  have e7 : anewA (F 1) 7 = F 1 7 := rfl
  have e0 : anewA (F 1) 0 = F 1 0 := rfl
  have pn : 0 ≤ pasN wr V (anewA (F 1)) := by
    unfold pasN
    have : ∀ n, 0 ≤ (pasS wr V (sfl (anewA (F 1))) (anewA (F 1)) n).2 := by
      intro n
      induction n with
      | zero => exact Int.le_refl _
      | succ n ih =>
        unfold pasS
        split
        · show 0 ≤ (if winv (warmA (pasS wr V (sfl (anewA (F 1))) (anewA (F 1)) n).1 V n) V n = -1 then (pasS wr V (sfl (anewA (F 1))) (anewA (F 1)) n).2 else (pasS wr V (sfl (anewA (F 1))) (anewA (F 1)) n).2 + 1)
          split <;> omega
        · exact ih
    exact this _
  rw [r_cv R, s_anew h0, fcall_some]
  unfold f_X12_happens f_X12_happens_b163 f_X12_happens_b25 yearA
  rw [r_cv R1, if_neg (by decide), irem_n w9.1 (by omega) (by omega) (by omega)]
  by_cases q : 3 < F 1 9 % 6
  · rw [if_pos q, if_neg (by omega), r_a R1, r_al R1 (by omega) (by omega), e1, show (7 : Int).toNat = 7 from rfl, e7]
    by_cases q2 : F 1 7 < 9999
    · obtain ⟨F2, v2, k2⟩ := s_pass (wr := wr) k1.1 hw1 (by rw [e1, e7]; exact q2)
      rw [e1] at k2
      rw [if_pos q2, if_neg (by omega), r_cv R1, v2, fcall_some, fcall_some]
      exact ⟨F2, _, rfl, pn, RE_t k1 k2 (Int.le_refl _) pn (by omega)⟩
    · rw [if_neg q2, if_pos (by omega), fcall_some]
      exact ⟨_, 0, rfl, Int.le_refl _, k1⟩
  · rw [if_neg q, if_pos (by omega), r_a R1, r_al R1 (by omega) (by omega), e1, show (0 : Int).toNat = 0 from rfl, e0]
    by_cases q2 : F 1 0 = 0
    · rw [if_pos q2, if_pos q2, fcall_some]
      exact ⟨_, 0, rfl, Int.le_refl _, k1⟩
    · rw [if_neg q2, if_neg q2, r_a R1, r_al R1 (by omega) (by omega), e1, show (0 : Int).toNat = 0 from rfl, e0, if_neg q2, irem_n w9.1 (by omega) (by omega) (by omega), flet_eq, if_neg (by decide)]
      have hm : 0 ≤ F 1 9 % F 1 0 ∧ F 1 9 % F 1 0 < F 1 0 := ⟨Int.emod_nonneg _ (by omega), Int.emod_lt_of_pos _ (by omega)⟩
      obtain ⟨l, el⟩ : ∃ l : Nat, F 1 9 % F 1 0 = (l : Int) := ⟨(F 1 9 % F 1 0).toNat, by omega⟩
      rw [el] at hm ⊢
      rw [toNat_z]
      by_cases q3 : F 1 9 % 6 = 0
      · rw [if_pos q3, if_pos q3, r_cv R1, s_canSell R1 (by rw [e1]; exact W1.1), fcall_some, if_b01, e1, toNat_z]
        by_cases q4 : anewA (F 1) (12 + 5 * l) = 0 ∧ 0 < anewA (F 1) 1
        · obtain ⟨F2, v2, k2⟩ := s_sellNow (wr := wr) k1.1 hw1 (l := l) (by rw [e1, e0]; omega)
          rw [e1] at k2 v2
          rw [if_pos ⟨hm, q4⟩, if_pos q4.1, r_cv R1, v2, fcall_some, fcall_some]
          exact ⟨F2, _, rfl, by split <;> omega, RE_t k1 k2 (Int.le_refl _) (by split <;> omega) (Int.zero_add _)⟩
        · rw [if_neg (fun z => q4 z.2), fcall_some]
          refine ⟨_, 0, rfl, Int.le_refl _, ?_⟩
          by_cases q5 : anewA (F 1) (12 + 5 * l) = 0
          · rw [if_pos q5]
            unfold selA
            rw [if_pos]
            · exact k1
            · unfold winv
              rw [if_neg (fun z => q4 ⟨q5, z.1⟩)]
          · rw [if_neg q5]
            exact k1
      · rw [if_neg q3, if_neg q3, if_neg (by decide)]
        by_cases q4 : F 1 9 % 6 = 1
        · rw [if_pos q4, if_pos q4, r_cv R1, s_canCarry R1 (by rw [e1]; exact W1.1), fcall_some, e1]
          by_cases q5 : bb (canCarryP (anewA (F 1)) (l : Int)) = 0
          · rw [if_pos q5, if_pos q5, fcall_some]
            exact ⟨_, 0, rfl, Int.le_refl _, k1⟩
          · have hq : canCarryP (anewA (F 1)) (l : Int) := Classical.byContradiction (fun z => q5 (bb_0.mpr z))
            obtain ⟨c1, c2, c3, c4⟩ := hq
            rw [toNat_z] at c4
            have e3 : anewA (F 1) (11 + 5 * l) = F 1 (11 + 5 * l) := by unfold anewA; rw [va_up_ne _ _ (by omega)]
            rw [e3] at c4
            have wl := W.2.1 l (by omega)
            rw [if_neg q5, if_neg q5, r_cv R1, s_get R1 (by omega) (by omega) (by omega) (by omega), fcall_some, e1, toNat_z, show 11 + 5 * l + (0 : Int).toNat = 11 + 5 * l from rfl, e3, w32_of (by omega) (by omega), r_cv R1, s_put R1 (by omega) (by omega) (by omega) (by omega), fcall_some, fcall_some, e1, toNat_z, show 11 + 5 * l + (0 : Int).toNat = 11 + 5 * l from rfl]
            exact ⟨_, 0, rfl, Int.le_refl _, RE_t k1 (RE_a k1.1 (Wf_floor W1 (by show _ < F 1 0; omega) (by omega)) (by rw [e1, va_up_ne _ _ (by omega)])) (Int.le_refl _) (Int.le_refl _) rfl⟩
        · rw [if_neg q4, if_neg q4, if_neg (by decide)]
          by_cases q5 : F 1 9 % 6 = 2
          · rw [if_pos q5, if_pos q5, if_neg (by decide), irem_n w9.1 (by omega) (by omega) (by omega)]
            by_cases q6 : F 1 9 % 8 = 2
            · rw [if_pos q6, r_cv R1, s_canBurn R1 (by rw [e1]; exact W1.1), fcall_some, e1]
              by_cases q7 : bb (canBurnP (anewA (F 1)) (l : Int)) = 0
              · rw [if_pos q7, if_neg (fun z => z.2 q7), fcall_some]
                exact ⟨_, 0, rfl, Int.le_refl _, k1⟩
              · rw [if_neg q7, if_pos ⟨q6, q7⟩, r_cv R1, s_put R1 (by omega) (by omega) (by omega) (by omega), fcall_some, fcall_some, e1, toNat_z, show 11 + 5 * l + (1 : Int).toNat = 12 + 5 * l by omega]
                exact ⟨_, 0, rfl, Int.le_refl _, RE_t k1 (RE_a k1.1 (Wf_where W1 (by show _ < F 1 0; omega) (by show (0 : Int) ≤ 2 ∧ 2 < 3 + F 1 1; omega)) (by rw [e1, va_up_ne _ _ (by omega)])) (Int.le_refl _) (Int.le_refl _) rfl⟩
            · rw [if_neg q6, if_neg (fun z => q6 z.1), fcall_some]
              exact ⟨_, 0, rfl, Int.le_refl _, k1⟩
          · rw [if_neg q5, if_neg q5, if_neg (by decide), irem_n w9.1 (by omega) (by omega) (by omega), w32_of (by omega) (by omega), r_cv R1, s_canBuy R1 (by rw [e1]; exact W1), fcall_some, e1]
            by_cases q7 : bb (canBuyP (anewA (F 1)) (l : Int) (20 + F 1 9 % 30)) = 0
            · rw [if_pos q7, if_pos q7, fcall_some]
              exact ⟨_, 0, rfl, Int.le_refl _, k1⟩
            · have hq : canBuyP (anewA (F 1)) (l : Int) (20 + F 1 9 % 30) := Classical.byContradiction (fun z => q7 (bb_0.mpr z))
              have hb := s_buyNow k1.1 (l := l) (p := 20 + F 1 9 % 30) (by rw [e1]; exact hq)
              rw [if_neg q7, if_neg q7, if_neg (by decide), r_cv R1, hb, fcall_some, fcall_some, e1]
              exact ⟨_, 0, rfl, Int.le_refl _, RE_t k1 (RE_a k1.1 (Wf_buy W1 hq) (by rw [e1, buyA_lo _ _ _ (by omega)])) (Int.le_refl _) (Int.le_refl _) rfl⟩
end RS4
