-- winners
section WN
variable {x : Nat}
theorem s_best {m : Nat} {S : jSt} {F : Nat → Nat → Int} (R : RI m S F) (WX : WfX (F 1)) (w1 : F 1 1 ≤ 5) {M : Nat} (hM : F 1 5 = (M : Int)) (y : Int) : f_X12_bestSet (m : Int) y (rS m S F) = some (((bsv (F 1) y M (2 ^ M) : Nat) : Int), rS m S F) := by
  have v1 := WX.1.1
  have v3 := WX.2.1
  have M8 : 2 ^ M ≤ 256 := Nat.pow_le_pow_right (n := 2) (by decide) (show M ≤ 8 by omega)
  have M1 : 0 < 2 ^ M := Nat.pow_pos (by decide)
  have z0 : bsv (F 1) y M 1 = 0 := by
    show (if (gts (F 1) 0 y M).isSome = true ∧ prv (F 1) 0 (-1) M < prv (F 1) 0 (-1) M then 0 else 0) = 0
    split <;> rfl
  unfold f_X12_bestSet f_X12_bestSet_b4
  have key := lp (z := fun _ _ _ _ _ => none) (s := fun r => f_X12_bestSet_b4B r) (fun (r : Int → Int → Int → Int → fK) i => r (m : Int) y ((bsv (F 1) y M i : Nat) : Int) (i : Int) (rS m S F)) (N := 2 ^ M) (res := some (((bsv (F 1) y M (2 ^ M) : Nat) : Int), rS m S F)) ?_ ?_ jN 1 (by omega) (by unfold jN; omega)
  · simp only [z0] at key
    exact key
  · intro r i hi hr
    show f_X12_bestSet_b4B r _ _ _ _ _ = _
    unfold f_X12_bestSet_b4B f_X12_bestSet_b33
    have bb' := bsv_b (a := F 1) y M i
    have nn : ∀ j, j < M → 0 ≤ F 1 (153 + 3 * j) := fun j hj => (v3 j (by omega)).1.1
    have be : bsv (F 1) y M (i + 1) = if (gts (F 1) i y M).isSome = true ∧ prv (F 1) (bsv (F 1) y M i) (-1) M < prv (F 1) i (-1) M then i else bsv (F 1) y M i := rfl
    have pb := prv_b (a := F 1) (s := bsv (F 1) y M i) (y := -1) M (fun j hj => (v3 j (by omega)).2.2)
    rw [r_a R, r_al R (by omega) (by omega), show (5 : Int).toNat = 5 from rfl, hM, ishl_n (by omega), if_neg (by omega), r_cv R, s_prices R WX w1 hM (by omega), fcall_some, r_cv R, s_prices R WX w1 hM (by omega), fcall_some, if_pos bb'.2, prv_y M nn bb'.2]
    simp only [flet_eq]
    rw [w32_of (z := (i : Int) + 1) (by omega) (by omega), zs]
    rw [be] at hr
    by_cases h2 : (gts (F 1) i y M).isSome = true
    · rw [if_pos h2, prv_y M nn h2]
      by_cases h1 : prv (F 1) i (-1) M ≤ prv (F 1) (bsv (F 1) y M i) (-1) M
      · rw [if_pos h1]
        rw [if_neg (fun z => by omega)] at hr
        exact hr
      · rw [if_neg h1]
        rw [if_pos ⟨h2, by omega⟩] at hr
        exact hr
    · rw [if_neg h2, if_pos (by omega)]
      rw [if_neg (fun z => h2 z.1)] at hr
      exact hr
  · intro r
    show f_X12_bestSet_b4B r _ _ _ _ _ = _
    unfold f_X12_bestSet_b4B
    rw [r_a R, r_al R (by omega) (by omega), show (5 : Int).toNat = 5 from rfl, hM, ishl_n (by omega), if_pos (by omega)]
theorem g_winners (w : Int) : Good x (f_X11_winners (x : Int) w) (f_X12_winners ((x + 426 : Nat) : Int) w) := Good_q (fun Z C F V h H => by
  have I := H.1
  have X := h.2.1.2.1
  have WX := h.2.1.2.2.1
  have W := H.2.2.2.1
  have w1 : F 1 1 ≤ 5 := W.1.2.1.2
  have v1 := WX.1.1
  obtain ⟨M, hM⟩ : ∃ M : Nat, F 1 5 = (M : Int) := ⟨(F 1 5).toNat, by omega⟩
  have M8 : 2 ^ M ≤ 256 := Nat.pow_le_pow_right (n := 2) (by decide) (show M ≤ 8 by omega)
  have bb' := bsv_b (a := F 1) (-1) M (2 ^ M)
  unfold f_X11_winners f_X11_winners_b26 f_X12_winners f_X12_winners_b22
  refine ⟨if w = 0 then ((bsv (F 1) (-1) M (2 ^ M) : Nat) : Int) else prv (F 1) (bsv (F 1) (-1) M (2 ^ M)) (-1) M, ?_, fun S2 hS R2 => ?_⟩
  · rw [cr0_9 I, c_v I (i := 417) (by decide) rfl, c_best I X WX w1 hM, fcall_some]
    by_cases hw : w = 0
    · rw [if_pos hw, if_pos hw]
    · rw [if_neg hw, if_neg hw, cr0_9 I, c_v I (i := 417) (by decide) rfl, c_prices I X WX hM (by omega), fcall_some]
  · have R := R2.1
    by_cases hw : w = 0
    · rw [if_pos hw, if_pos hw, r_cv R, s_best R WX w1 hM, fcall_some]
    · rw [if_neg hw, if_neg hw, r_cv R, s_best R WX w1 hM, fcall_some, r_cv R, s_prices R WX w1 hM (by omega), fcall_some, if_pos bb'.2])
end WN
