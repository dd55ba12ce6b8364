-- foretold
section FO4
variable {x : Nat}
theorem g_foretold (n w l : Int) : Good x (f_X11_foretold (x : Int) n w l) (f_X12_foretold ((x + 426 : Nat) : Int) n w l) := Good_k (fun Z C F V R h T => by
  have I := CI_g (y := x + 426) (N := 12) (F := F) h.1.1
  have Rl := h.2.1
  have H := Rel_HR I Rl (TXT_C T)
  have W := INV_W h
  have wr := h.2.2.2.2.2.2
  unfold f_X11_foretold f_X11_foretold_b35 f_X12_foretold f_X12_foretold_b32
  by_cases hn : 1 ≤ n ∧ n ≤ 60
  · by_cases hw : 0 ≤ w ∧ w ≤ 2
    · obtain ⟨k, rfl⟩ : ∃ k : Nat, n = (k : Int) := ⟨n.toNat, by omega⟩
      obtain ⟨q, hq⟩ : ∃ q : Nat, q = if F 1 7 + (k : Int) ≤ 9999 then k else (9999 - F 1 7).toNat := ⟨_, rfl⟩
      by_cases hl : w = 1 → 0 ≤ l ∧ l < F 1 0
      · obtain ⟨C', c1, I', f'⟩ := c_fore H (n := k) (by omega) hq (w := w) (l := l) hl
        refine ⟨foV V (F 1) w l q, C', F 1, ?_, I', Rel_fr Rl (fun i a b => f' i (by omega)), ⟨f' 4 (by omega), fun i a b => f' i (by omega)⟩, rfl, fun S2 hS R2 => ?_⟩
        · rw [s_within, fcall_some, if_b01, if_pos hn, s_within, fcall_some, if_b01, if_pos hw]
          by_cases h1 : w = 1
          · rw [if_pos h1, cr0_0 I, cv_1 I, c_hasLot I Rl.1 W.1, fcall_some, if_b01, if_pos (hl h1)]
            exact c1
          · rw [if_neg h1]
            exact c1
        · obtain ⟨F', g1, g2⟩ := s_fore R2 wr (n := k) (by omega) hq (w := w) (l := l) hl
          refine ⟨F', ?_, g2⟩
          rw [s_isIn, fcall_some, if_b01, if_pos hn, s_isIn, fcall_some, if_b01, if_pos hw]
          by_cases h1 : w = 1
          · rw [if_pos h1, r_cv R2.1, s_isLot R2.1 W.1.1, fcall_some, if_b01, if_pos (hl h1)]
            exact g1
          · rw [if_neg h1]
            exact g1
      · have h1 : w = 1 := Decidable.byContradiction (fun z => hl (fun z2 => absurd z2 z))
        have h2 : ¬ (0 ≤ l ∧ l < F 1 0) := fun z => hl (fun _ => z)
        refine ⟨-2, C, F 1, ?_, I, Rl, KF_r C, rfl, fun S2 hS R2 => ⟨F, ?_, RK_r R2.1⟩⟩
        · rw [s_within, fcall_some, if_b01, if_pos hn, s_within, fcall_some, if_b01, if_pos hw, if_pos h1, cr0_0 I, cv_1 I, c_hasLot I Rl.1 W.1, fcall_some, if_b01, if_neg h2]
        · rw [s_isIn, fcall_some, if_b01, if_pos hn, s_isIn, fcall_some, if_b01, if_pos hw, if_pos h1, r_cv R2.1, s_isLot R2.1 W.1.1, fcall_some, if_b01, if_neg h2]
    · refine ⟨-2, C, F 1, ?_, I, Rl, KF_r C, rfl, fun S2 hS R2 => ⟨F, ?_, RK_r R2.1⟩⟩
      · rw [s_within, fcall_some, if_b01, if_pos hn, s_within, fcall_some, if_b01, if_neg hw]
      · rw [s_isIn, fcall_some, if_b01, if_pos hn, s_isIn, fcall_some, if_b01, if_neg hw]
  · refine ⟨-2, C, F 1, ?_, I, Rl, KF_r C, rfl, fun S2 hS R2 => ⟨F, ?_, RK_r R2.1⟩⟩
    · rw [s_within, fcall_some, if_b01, if_neg hn]
    · rw [s_isIn, fcall_some, if_b01, if_neg hn])
end FO4
