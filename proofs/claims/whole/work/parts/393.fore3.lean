-- foretold: the reference
section FO3
variable {m : Nat} {S : jSt} {V : LwV}
theorem s_aside {F : Nat → Nat → Int} (R : RI m S F) : ∃ F1, f_X12_setAside (m : Int) (rS m S F) = some (0, rS m S F1) ∧ RI m S F1 ∧ (∀ i, i ≠ 0 → i ≠ 9 → F1 i = F i) ∧ (∀ k, 7 ≤ k → k < 141 → F1 9 k = F 1 k) ∧ (F1 0 23 = 0 ∧ F1 0 24 = 0) ∧ ∀ k, k ≠ 23 → k ≠ 24 → F1 0 k = F 0 k := by
  unfold f_X12_setAside f_X12_setAside_b3
  refine lpe (fun (r : Int → Int → fK) i (c : Nat → Nat → Int) => r (m : Int) (i : Int) (rS m S c)) (fun i c => 7 ≤ i ∧ RI m S c ∧ (∀ j, j ≠ 9 → c j = F j) ∧ ∀ k, 7 ≤ k → k < i → c 9 k = F 1 k) (fun r => ∃ F1, r = some (0, rS m S F1) ∧ RI m S F1 ∧ (∀ i, i ≠ 0 → i ≠ 9 → F1 i = F i) ∧ (∀ k, 7 ≤ k → k < 141 → F1 9 k = F 1 k) ∧ (F1 0 23 = 0 ∧ F1 0 24 = 0) ∧ ∀ k, k ≠ 23 → k ≠ 24 → F1 0 k = F 0 k) (N := 141) ?_ ?_ jN 7 F (by omega) (by unfold jN; omega) ⟨by omega, R, fun _ _ => rfl, fun k h1 h2 => by omega⟩
  · intro r i c hi hinv ih
    obtain ⟨i7, Rc, h1, h2⟩ := hinv
    show ∃ F1, f_X12_setAside_b3B r _ _ _ = _ ∧ _
    unfold f_X12_setAside_b3B
    rw [if_neg (by omega), r_as Rc, r_a Rc, r_al Rc (by omega) (by omega), toNat_z, rt_9 Rc (by omega) (by omega), toNat_z, flet_eq, w32_of (by omega) (by omega), zs]
    refine ih _ ⟨by omega, rV Rc (by omega) _, fun j hj => by rw [va_up_ne _ _ hj, h1 j hj], fun k a b => ?_⟩
    rw [va_up_self, h1 1 (by omega)]
    by_cases e : k = i
    · subst e; rw [va_up_self]
    · rw [va_up_ne _ _ e]; exact h2 k a (by omega)
  · intro r c hinv
    obtain ⟨_, Rc, h1, h2⟩ := hinv
    show ∃ F1, f_X12_setAside_b3B r _ _ _ = _ ∧ _
    unfold f_X12_setAside_b3B
    have R1 : RI m S (va_up c 0 (va_up (c 0) 23 0)) := RI_up0 Rc (by decide)
    have R2 : RI m S (va_up (va_up c 0 (va_up (c 0) 23 0)) 0 (va_up (va_up c 0 (va_up (c 0) 23 0) 0) 24 0)) := RI_up0 R1 (by decide)
    rw [if_pos (by omega), r_p Rc, r_p R1]
    refine ⟨_, rfl, R2, fun i a b => by rw [va_up_ne _ _ a, va_up_ne _ _ a, h1 i b], fun k a b => by rw [va_up_ne _ _ (by decide), va_up_ne _ _ (by decide)]; exact h2 k a b, ⟨?_, ?_⟩, fun k a b => ?_⟩
    · rw [va_up_self, va_up_ne _ _ (by decide), va_up_self, va_up_self]
    · rw [va_up_self, va_up_self]
    · rw [va_up_self, va_up_ne _ _ b, va_up_self, va_up_ne _ _ a, h1 0 (by omega)]
theorem s_putB {F : Nat → Nat → Int} (R : RI m S F) : ∃ F1, f_X12_putBack (m : Int) (rS m S F) = some (0, rS m S F1) ∧ RI m S F1 ∧ (∀ i, i ≠ 0 → i ≠ 1 → F1 i = F i) ∧ (∀ k, F1 1 k = if 7 ≤ k ∧ k < 141 then F 9 k else F 1 k) ∧ F1 0 23 = 1 ∧ ∀ k, k ≠ 23 → F1 0 k = F 0 k := by
  unfold f_X12_putBack f_X12_putBack_b3
  refine lpe (fun (r : Int → Int → fK) i (c : Nat → Nat → Int) => r (m : Int) (i : Int) (rS m S c)) (fun i c => 7 ≤ i ∧ RI m S c ∧ (∀ j, j ≠ 1 → c j = F j) ∧ ∀ k, c 1 k = if 7 ≤ k ∧ k < i then F 9 k else F 1 k) (fun r => ∃ F1, r = some (0, rS m S F1) ∧ RI m S F1 ∧ (∀ i, i ≠ 0 → i ≠ 1 → F1 i = F i) ∧ (∀ k, F1 1 k = if 7 ≤ k ∧ k < 141 then F 9 k else F 1 k) ∧ F1 0 23 = 1 ∧ ∀ k, k ≠ 23 → F1 0 k = F 0 k) (N := 141) ?_ ?_ jN 7 F (by omega) (by unfold jN; omega) ⟨by omega, R, fun _ _ => rfl, fun k => by rw [if_neg (by omega)]⟩
  · intro r i c hi hinv ih
    obtain ⟨i7, Rc, h1, h2⟩ := hinv
    show ∃ F1, f_X12_putBack_b3B r _ _ _ = _ ∧ _
    unfold f_X12_putBack_b3B
    rw [if_neg (by omega), r_a Rc, r_as Rc, g_ald (i := 9) (by omega) Rc.1.2.2.2.2.2.2.2.2.2.1 (by omega) (by omega), toNat_z, r_st Rc (by omega) (by omega), toNat_z, flet_eq, w32_of (by omega) (by omega), zs]
    refine ih _ ⟨by omega, rU Rc _, fun j hj => by rw [va_up_ne _ _ hj, h1 j hj], fun k => ?_⟩
    rw [va_up_self, h1 9 (by omega)]
    by_cases e : k = i
    · subst e; rw [va_up_self, if_pos (by omega)]
    · rw [va_up_ne _ _ e, h2 k]
      by_cases z : 7 ≤ k ∧ k < i
      · rw [if_pos z, if_pos (by omega)]
      · rw [if_neg z, if_neg (by omega)]
  · intro r c hinv
    obtain ⟨_, Rc, h1, h2⟩ := hinv
    show ∃ F1, f_X12_putBack_b3B r _ _ _ = _ ∧ _
    unfold f_X12_putBack_b3B
    rw [if_pos (by omega), r_p Rc]
    refine ⟨_, rfl, RI_up0 Rc (by decide), fun i a b => by rw [va_up_ne _ _ a, h1 i b], fun k => by rw [va_up_ne _ _ (by decide)]; exact h2 k, by rw [va_up_self, va_up_self], fun k a => by rw [va_up_self, va_up_ne _ _ a, h1 0 (by omega)]⟩
theorem s_fore {F : Nat → Nat → Int} (h : RR m S V F) (wr : F 0 23 = 1) {n q : Nat} (hn : n ≤ 60) (hq : q = if F 1 7 + (n : Int) ≤ 9999 then n else (9999 - F 1 7).toNat) {w l : Int} (hl : w = 1 → 0 ≤ l ∧ l < F 1 0) : ∃ F', f_X12_foretold_b35 (m : Int) (n : Int) w l (rS m S F) = some (foV V (F 1) w l q, rS m S F') ∧ RK m S F F' (F 1) := by
  have W := h.2.1
  have w7 := W.1.2.2.2.2.2.1
  have w0 := W.1.1
  have q1 : F 1 7 + (q : Int) ≤ 9999 ∧ q ≤ n ∧ (q < n → F 1 7 + (q : Int) = 9999) := by rw [hq]; split <;> omega
  clear hq
  obtain ⟨F1, e1, R1, f1, g1, ⟨z1, z2⟩, z3⟩ := s_aside h.1
  unfold f_X12_foretold_b35
  rw [r_cv h.1, e1, fcall_some]
  have E1 : F1 1 = F 1 := f1 1 (by omega) (by omega)
  have RR1 : RR m S V F1 := ⟨R1, by rw [E1]; exact W, by rw [E1, f1 3 (by omega) (by omega)]; exact h.2.2⟩
  have fb : ∀ i, i ≤ q → _ := fun i hi => foA_b V W i (by omega)
  unfold f_X12_foretold_b42
  refine lpe (fun (r : Int → Int → Int → Int → Int → fK) i (c : Nat → Nat → Int) => r (m : Int) (n : Int) w l (i : Int) (rS m S c)) (fun i c => ∃ u : Nat, u = (if i ≤ q then i else q) ∧ RR m S V c ∧ c 1 = foA V (F 1) u ∧ c 0 24 = foN V (F 1) u ∧ (∀ k, k ≠ 24 → c 0 k = F1 0 k) ∧ ∀ j, j ≠ 0 → j ≠ 1 → j ≠ 6 → j ≠ 7 → j ≠ 8 → c j = F1 j) (fun r => ∃ F', r = some (foV V (F 1) w l q, rS m S F') ∧ RK m S F F' (F 1)) (N := n) ?_ ?_ jN 0 F1 (by omega) (by unfold jN; omega) ⟨0, by rw [if_pos (by omega)], RR1, E1, z2, fun _ _ => rfl, fun _ _ _ _ _ _ => rfl⟩
  · intro r i c hi hinv ih
    obtain ⟨u, hu, Rc, c1, c2, c3, c4⟩ := hinv
    have uq : u ≤ q := by rw [hu]; split <;> omega
    obtain ⟨b1, b2, b3, b4, b5⟩ := fb u uq
    show ∃ F', f_X12_foretold_b42B r _ _ _ _ _ _ = _ ∧ _
    unfold f_X12_foretold_b42B f_X12_foretold_b65
    rw [if_neg (by omega), r_a Rc.1, r_al Rc.1 (by omega) (by omega), show (7 : Int).toNat = 7 from rfl, c1, b2]
    simp only [flet_eq]
    rw [w32_of (z := (i : Int) + 1) (by omega) (by omega), zs]
    by_cases h9 : 9999 ≤ F 1 7 + (u : Int)
    · rw [if_pos h9]
      exact ih c ⟨u, by (repeat' split at hu) <;> split <;> omega, Rc, c1, c2, c3, c4⟩
    · rw [if_neg h9, r_cv Rc.1]
      obtain ⟨F', p1, p2⟩ := s_pass (wr := false) Rc (by rw [c3 23 (by omega), z1]; rfl) (by rw [c1, b2]; omega)
      rw [c1] at p2
      rw [p1, fcall_some]
      obtain ⟨p3, p4, p5, p6, p7⟩ := p2
      have ui : u = i ∧ i < q := by split at hu <;> omega
      have pn := pasS_n false V (sfl (foA V (F 1) u)) (foA V (F 1) u) (foA V (F 1) u 0).toNat
      have pe : pasN false V (foA V (F 1) u) = (pasS false V (sfl (foA V (F 1) u)) (foA V (F 1) u) (foA V (F 1) u 0).toNat).2 := rfl
      have u0 := b1.1.1
      refine ih F' ⟨u + 1, by rw [if_pos (by omega)]; omega, p3, p4, ?_, fun k hk => by rw [p6 k hk, c3 k hk], fun j j0 j1 j6 j7 j8 => by rw [p7 j j0 j1 j6 j7 j8, c4 j j0 j1 j6 j7 j8]⟩
      rw [p5 (by rw [c2]; omega) (by rw [c2]; omega), c2]
      rfl
  · intro r c hinv
    obtain ⟨u, hu, Rc, c1, c2, c3, c4⟩ := hinv
    have uq : u = q := by rw [hu]; split <;> omega
    subst uq
    obtain ⟨b1, b2, b3, b4, b5⟩ := fb u (by omega)
    obtain ⟨F', p1, p2, p3, p4, p5, p6⟩ := s_putB Rc.1
    have fin : RK m S F F' (F 1) := by
      refine ⟨p2, ?_, fun i i2 i4 => ?_, fun k hk => ?_⟩
      · funext k
        rw [p4 k]
        by_cases z : 7 ≤ k ∧ k < 141
        · rw [if_pos z, c4 9 (by omega) (by omega) (by omega) (by omega) (by omega), g1 k z.1 z.2]
        · rw [if_neg z, c1, b3 k (by omega)]
      · rw [p3 i (by omega) (by omega), c4 i (by omega) (by omega) (by omega) (by omega) (by omega), f1 i (by omega) (by omega)]
      · by_cases k23 : k = 23
        · subst k23; rw [p5, wr]
        · rw [p6 k k23, c3 k (by omega), z3 k k23 (by omega)]
    show ∃ F', f_X12_foretold_b42B r _ _ _ _ _ _ = _ ∧ _
    unfold f_X12_foretold_b42B f_X12_foretold_b103 foV
    rw [if_pos (by omega)]
    by_cases h0 : w = 0
    · rw [if_pos h0, if_pos h0, r_a Rc.1, r_al Rc.1 (by omega) (by omega), show (8 : Int).toNat = 8 from rfl, c1, r_cv Rc.1, p1, fcall_some]
      exact ⟨F', rfl, fin⟩
    · rw [if_neg h0, if_neg h0]
      by_cases h1 : w = 1
      · have hl' := hl h1
        rw [if_pos h1, if_pos h1, r_cv Rc.1, s_get Rc.1 (by omega) (by omega) (by omega) (by omega), fcall_some, r_cv Rc.1, p1, fcall_some, c1, show 11 + 5 * l.toNat + (1 : Int).toNat = 12 + 5 * l.toNat by omega]
        exact ⟨F', rfl, fin⟩
      · rw [if_neg h1, if_neg h1, r_g Rc.1, c2, r_cv Rc.1, p1, fcall_some]
        exact ⟨F', rfl, fin⟩
end FO3
