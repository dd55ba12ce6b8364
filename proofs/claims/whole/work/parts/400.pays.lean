-- pays
section PY
variable {x : Nat}
theorem g_pays (b : Int) : Good x (f_X11_pays (x : Int) b) (f_X12_pays ((x + 426 : Nat) : Int) b) := Good_q (fun Z C F V h H => by
  have I := H.1
  have T := h.2.1.1
  have X := h.2.1.2.1
  have WX := h.2.1.2.2.1
  have W := H.2.2.2.1
  have w1 : F 1 1 ≤ 5 := W.1.2.1.2
  have v1 := WX.1.1
  have v3 := WX.2.1
  obtain ⟨M, hM⟩ : ∃ M : Nat, F 1 5 = (M : Int) := ⟨(F 1 5).toNat, by omega⟩
  have M8 : 2 ^ M ≤ 256 := Nat.pow_le_pow_right (n := 2) (by decide) (show M ≤ 8 by omega)
  have b1 := bsv_b (a := F 1) (-1) M (2 ^ M)
  have b2 := bsv_b (a := F 1) b M (2 ^ M)
  have nn : ∀ j, j < M → 0 ≤ F 1 (153 + 3 * j) := fun j hj => (v3 j (by omega)).1.1
  unfold f_X11_pays f_X12_pays
  by_cases hb : 0 ≤ b ∧ b < F 1 1
  · refine ⟨w32 (prv (F 1) (bsv (F 1) b M (2 ^ M)) (-1) M - prv (F 1) (bsv (F 1) (-1) M (2 ^ M)) b M), ?_, fun S2 hS R2 => ?_⟩
    · rw [cr0_0 I, cv_1 I, c_hasBidder I T W.1, fcall_some, if_b01, if_pos hb, cr0_9 I, cr0_9 I, c_v I (i := 417) (by decide) rfl, c_best I X WX w1 hM, fcall_some, c_v I (i := 417) (by decide) rfl, c_prices I X WX hM (by omega), fcall_some, cr0_9 I, cr0_9 I, c_v I (i := 417) (by decide) rfl, c_best I X WX w1 hM, fcall_some, c_v I (i := 417) (by decide) rfl, c_prices I X WX hM (by omega), fcall_some]
    · have R := R2.1
      rw [r_cv R, s_isBidder R W.1.2.1, fcall_some, if_b01, if_pos hb, r_cv R, s_best R WX w1 hM, fcall_some]
      obtain ⟨s, hs⟩ : ∃ s, s = bsv (F 1) (-1) M (2 ^ M) := ⟨_, rfl⟩
      rw [← hs] at b1 ⊢
      unfold f_X12_pays_b21
      refine lp (fun (r : Int → Int → Int → Int → Int → fK) i => r ((x + 426 : Nat) : Int) b (s : Int) (prv (F 1) s b i) (i : Int) (rS (x + 426) S2 F)) (N := M) ?_ ?_ jN 0 (by omega) (by unfold jN; omega)
      · intro r i hi hr
        show f_X12_pays_b21B r _ _ _ _ _ _ = _
        unfold f_X12_pays_b21B f_X12_pays_b77 f_X12_pays_b78
        have e3 := (v3 i (by omega)).2.2
        have pb := prv_b (a := F 1) (s := s) (y := b) i (fun j hj => (v3 j (by omega)).2.2)
        have pe : prv (F 1) s b (i + 1) = prv (F 1) s b i + (if s.testBit i = true ∧ ¬ F 1 (153 + 3 * i) = b then F 1 (155 + 3 * i) else 0) := rfl
        rw [r_a R, r_al R (by omega) (by omega), show (5 : Int).toNat = 5 from rfl, hM, if_neg (by omega), s_has (by omega) (by omega), fcall_some, if_b01]
        simp only [flet_eq]
        rw [w32_of (z := (i : Int) + 1) (by omega) (by omega), zs, w32_of (z := 3 * (i : Int)) (by omega) (by omega), w32_of (z := 153 + 3 * (i : Int)) (by omega) (by omega), w32_of (z := 153 + 3 * (i : Int) + 2) (by omega) (by omega), w32_of (z := prv (F 1) s b i + 0) (by omega) (by omega), Int.add_zero]
        rw [pe] at hr
        by_cases h1 : s.testBit i = true
        · rw [if_pos h1, r_a R, r_al R (by omega) (by omega), show (153 + 3 * (i : Int)).toNat = 153 + 3 * i by omega]
          by_cases h2 : F 1 (153 + 3 * i) = b
          · rw [if_pos h2]
            rw [if_neg (fun z => z.2 h2), Int.add_zero] at hr
            exact hr
          · rw [if_neg h2, r_a R, r_al R (by omega) (by omega), show (153 + 3 * (i : Int) + 2).toNat = 155 + 3 * i by omega, w32_of (by omega) (by omega)]
            rw [if_pos ⟨h1, h2⟩] at hr
            exact hr
        · rw [if_neg h1]
          rw [if_neg (fun z => h1 z.1), Int.add_zero] at hr
          exact hr
      · intro r
        show f_X12_pays_b21B r _ _ _ _ _ _ = _
        unfold f_X12_pays_b21B
        rw [r_a R, r_al R (by omega) (by omega), show (5 : Int).toNat = 5 from rfl, hM, if_pos (by omega), r_cv R, s_best R WX w1 hM, fcall_some, r_cv R, s_prices R WX w1 hM (by omega), fcall_some, if_pos b2.2, prv_y M nn b2.2]
  · refine ⟨-1, ?_, fun S2 hS R2 => ?_⟩
    · rw [cr0_0 I, cv_1 I, c_hasBidder I T W.1, fcall_some, if_b01, if_neg hb]
    · rw [r_cv R2.1, s_isBidder R2.1 W.1.2.1, fcall_some, if_b01, if_neg hb])
end PY
