-- foretold: the class
section FO2
variable {x : Nat} {S : jSt} {V : LwV} {C : Nat → Nat → Int} {a : Nat → Int}
noncomputable def foV (V : LwV) (a : Nat → Int) (w l : Int) (q : Nat) : Int := if w = 0 then foA V a q 8 else if w = 1 then foA V a q (12 + 5 * l.toNat) else foN V a q
theorem iH420 : isH 420 := Or.inr (Or.inr (Or.inl rfl))
theorem c_fore (H : HR true x S V a C 14) {n q : Nat} (hn : n ≤ 60) (hq : q = if a 7 + (n : Int) ≤ 9999 then n else (9999 - a 7).toNat) {w l : Int} (hl : w = 1 → 0 ≤ l ∧ l < a 0) : ∃ C', f_X11_foretold_b38 (x : Int) (n : Int) w l (cS x S C) = some (foV V a w l q, cS x S C') ∧ CI x S C' ∧ ∀ i, i < 413 → C' i = C i := by
  have I := H.1
  have W := H.2.2.2.1
  have w7 := W.1.2.2.2.2.2.1
  have w0 := W.1.1
  have HX14 : HX a C 14 := ⟨H.2.2.1, H.2.2.2.2.2 rfl, W⟩
  have q1 : a 7 + (q : Int) ≤ 9999 ∧ q ≤ 60 := by rw [hq]; split <;> omega
  have mi : imin (n : Int) (9999 - a 7) = (q : Int) := by unfold imin; rw [hq]; (repeat' split) <;> omega
  obtain ⟨C1, e1, I1, f1, g1, g2⟩ := c_copyFrom I iH420 iH14 (by omega)
  have X1 := HX_cp HX14 g1 g2
  unfold f_X11_foretold_b38
  rw [cr0_10 I, cr0_1 I, cv_h I iH420, e1, fcall_some, cr0_1 I1, cg_h I1 iH14, f1 14 (by omega), H.2.2.1.1.1, w32_of (by omega) (by omega), mi, flet_eq]
  have fb : ∀ i, i ≤ q → _ := fun i hi => foA_b V W i (by omega)
  have H1 : HR false x S V a C1 420 := ⟨I1, Td_fr H.2.1 (fun i h1 h2 => f1 i (by omega)), X1.1, W, by rw [f1 4 (by omega)]; exact H.2.2.2.2.1, fun z => Bool.noConfusion z⟩
  unfold f_X11_foretold_b72
  refine lpe (fun (r : Int → Int → Int → Int → Int → Int → fK) i (c : Nat → Nat → Int) => r (x : Int) w l (q : Int) (foN V a i) (i : Int) (cS x S c)) (fun i c => HR false x S V (foA V a i) c 420 ∧ ∀ j, j < 413 → c j = C j) (fun r => ∃ C', r = some (foV V a w l q, cS x S C') ∧ CI x S C' ∧ ∀ i, i < 413 → C' i = C i) (N := q) ?_ ?_ jN 0 C1 (by omega) (by unfold jN; omega) ⟨H1, fun j hj => f1 j (by omega)⟩
  · intro r i c hi hinv ih
    obtain ⟨Hc, fc⟩ := hinv
    have Ic := Hc.1
    obtain ⟨b1, b2, b3, b4, b5⟩ := fb i (by omega)
    obtain ⟨_, _, _, b6, b7⟩ := fb (i + 1) (by omega)
    have ee : foN V a (i + 1) = foN V a i + pasN false V (foA V a i) := rfl
    obtain ⟨C', v, H', f'⟩ := c_passWeek iH420 Hc (by rw [b2]; omega)
    show ∃ C', f_X11_foretold_b72B r _ _ _ _ _ _ _ = _ ∧ _
    unfold f_X11_foretold_b72B
    rw [if_neg (by omega), cr0_8 Ic, cr0_10 Ic, cv_413 Ic, v, fcall_some, flet_eq, flet_eq, w32_of (z := foN V a i + pasN false V (foA V a i)) (by omega) (by omega), w32_of (by omega) (by omega), zs]
    exact ih C' ⟨H', fun j hj => by rw [f' j (by omega) (by omega) (by omega) (by omega)]; exact fc j hj⟩
  · intro r c hinv
    obtain ⟨Hc, fc⟩ := hinv
    have Ic := Hc.1
    obtain ⟨b1, b2, b3, b4, b5⟩ := fb q (by omega)
    show ∃ C', f_X11_foretold_b72B r _ _ _ _ _ _ _ = _ ∧ _
    unfold f_X11_foretold_b72B f_X11_foretold_b132 foV
    rw [if_pos (by omega)]
    by_cases h0 : w = 0
    · rw [if_pos h0, if_pos h0, cr0_10 Ic, cg_h Ic iH420, Hc.2.2.1.1.2.1]
      exact ⟨c, rfl, Ic, fc⟩
    · rw [if_neg h0, if_neg h0]
      by_cases h1 : w = 1
      · have hl' := hl h1
        rw [if_pos h1, if_pos h1, cr0_10 Ic, crh_0 Ic iH420, alh_1 Ic iH420 (by omega) (by omega), (Hc.2.2.1.2.1 l.toNat (by rw [b3 0 (by omega)]; omega)).1]
        exact ⟨c, rfl, Ic, fc⟩
      · rw [if_neg h1, if_neg h1]
        exact ⟨c, rfl, Ic, fc⟩
end FO2
