section RT
variable {m : Nat} {S : jSt} {F : Nat → Nat → Int}
theorem s_bidder (R : RI m S F) (hB : 0 ≤ F 1 1 ∧ F 1 1 ≤ 5) (p : Int) : f_X12_bidder (m : Int) p (rS m S F) = if (0 ≤ p ∧ p ≤ 9999) ∧ ¬ F 1 1 = 5 then some (F 1 1, rA m S F (bidA (F 1) p)) else some (-1, rS m S F) := by
  unfold f_X12_bidder f_X12_bidder_b21 f_X12_bidder_b47
  rw [s_isIn, fcall_some, if_b01]
  by_cases h1 : 0 ≤ p ∧ p ≤ 9999
  · rw [if_pos h1, r_a R, r_al R (by omega) (by omega), show (1 : Int).toNat = 1 from rfl]
    by_cases h2 : F 1 1 = 5
    · rw [if_pos h2, if_neg (fun q => q.2 h2)]
    · rw [if_neg h2, if_pos ⟨h1, h2⟩, r_a R, r_al R (by omega) (by omega), show (1 : Int).toNat = 1 from rfl, r_cv R, s_lay R (by omega) (by omega) (by omega) (by omega), fcall_some, r_cv (rU R _), s_lay (rU R _) (by omega) (by omega) (by omega) (by omega), fcall_some, va_up_self, va_uu]
      obtain ⟨n, en⟩ : ∃ n : Nat, F 1 1 = (n : Int) := ⟨(F 1 1).toNat, by omega⟩
      rw [en, toNat_z, show 71 + 14 * n + (0 : Int).toNat = 71 + 14 * n from rfl, show 71 + 14 * n + (13 : Int).toNat = 71 + 14 * n + 13 from rfl]
      generalize hA : va_up (va_up (F 1) (71 + 14 * n) p) (71 + 14 * n + 13) p = A
      have A1 : A 1 = F 1 1 := by rw [← hA, va_up_ne _ _ (by omega), va_up_ne _ _ (by omega)]
      have h9 := lp (z := fun _ _ _ _ => none) (s := fun r => f_X12_bidder_b47B r) (fun (r : Int → Int → Int → fK) i => r (m : Int) (n : Int) (i : Int) (rA m S F (fillI A (72 + 14 * n) (fun _ => 0) i))) (N := 12) (res := some ((n : Int), rA m S F (bidA (F 1) p))) ?_ ?_ jN 0 (by omega) (by unfold jN; omega)
      · rw [fillI_0] at h9
        exact h9
      · intro r i hi ih
        show f_X12_bidder_b47B r _ _ _ _ = _
        unfold f_X12_bidder_b47B
        rw [if_neg (by omega), r_cv (rU R _), w32_of (z := 1 + (i : Int)) (by omega) (by omega), s_lay (rU R _) (by omega) (by omega) (by omega) (by omega), fcall_some, flet_eq, w32_of (by omega) (by omega), zs, va_up_self, va_uu, toNat_z, show 71 + 14 * n + (1 + (i : Int)).toNat = 72 + 14 * n + i by omega, fillI_step A (72 + 14 * n) (fun _ => 0) i rfl rfl]
        exact ih
      · intro r
        show f_X12_bidder_b47B r _ _ _ _ = _
        unfold f_X12_bidder_b47B
        rw [if_pos (by omega), r_a (rU R _), r_al (rU R _) (by omega) (by omega), va_up_self, show (1 : Int).toNat = 1 from rfl, fillI_out (by omega), A1, en, w32_of (by omega) (by omega), r_st (rU R _) (by omega) (by omega), va_up_self, va_uu, show (1 : Int).toNat = 1 from rfl]
        have e : va_up (fillI A (72 + 14 * n) (fun _ => 0) 12) 1 ((n : Int) + 1) = bidA (F 1) p := by
          funext k
          unfold bidA
          rw [en, toNat_z, ← hA]
          unfold va_up fillI
          dsimp only
          (repeat' split) <;> first | rfl | omega
        rw [e]
  · rw [if_neg h1, if_neg (fun q => h1 q.1)]
theorem wanA_step (n : Nat) (a : Nat → Int) {b l : Nat} (z : Int) (hb : b < 5) (hl : l < 12) : va_up (wanA n a b l z) (193 + 155 * n + 30 + 13 * b + 1 + l) z = wanA (n + 1) a b l z := by
  funext k
  unfold va_up wanA
  by_cases h : k = 193 + 155 * n + 30 + 13 * b + 1 + l
  · rw [if_pos h, if_neg (by omega), if_pos (by omega)]
  · rw [if_neg h]
    by_cases h2 : k = 72 + 14 * b + l
    · rw [if_pos h2, if_pos h2]
    · rw [if_neg h2, if_neg h2]
      by_cases h3 : 193 ≤ k ∧ k < 193 + 155 * n ∧ (k - 193) % 155 = 31 + 13 * b + l
      · rw [if_pos h3, if_pos (by omega)]
      · rw [if_neg h3, if_neg (by omega)]
theorem s_want (R : RI m S F) (W : WfN (F 1)) (b l z : Int) : f_X12_want (m : Int) b l z (rS m S F) = if (0 ≤ b ∧ b < F 1 1) ∧ (0 ≤ l ∧ l < F 1 0) ∧ (0 ≤ z ∧ z ≤ 99) then some (1, rA m S F (wanA (F 1 4).toNat (F 1) b.toNat l.toNat z)) else some (0, rS m S F) := by
  obtain ⟨w0, w1, w2, w3, w4, w7⟩ := W
  unfold f_X12_want f_X12_want_b26 f_X12_want_b40
  rw [r_cv R, s_isBidder R w1, fcall_some, if_b01]
  by_cases h1 : 0 ≤ b ∧ b < F 1 1
  · rw [if_pos h1, r_cv R, s_isLot R w0, fcall_some, if_b01]
    by_cases h2 : 0 ≤ l ∧ l < F 1 0
    · rw [if_pos h2, s_isIn, fcall_some, if_b01]
      by_cases h3 : 0 ≤ z ∧ z ≤ 99
      · rw [if_pos h3, if_pos ⟨h1, h2, h3⟩, r_cv R, w32_of (z := 1 + l) (by omega) (by omega), s_lay R (by omega) (by omega) (by omega) (by omega), fcall_some]
        obtain ⟨q, eq⟩ : ∃ q : Nat, b = (q : Int) := ⟨b.toNat, by omega⟩
        obtain ⟨k, ek⟩ : ∃ k : Nat, l = (k : Int) := ⟨l.toNat, by omega⟩
        subst eq
        subst ek
        rw [toNat_z, toNat_z, show 71 + 14 * q + (1 + (k : Int)).toNat = 72 + 14 * q + k by omega]
        have e0 : va_up (F 1) (72 + 14 * q + k) z = wanA 0 (F 1) q k z := by
          funext j
          unfold va_up wanA
          (repeat' split) <;> first | rfl | omega
        rw [e0]
        have e4 : ∀ n, wanA n (F 1) q k z 4 = F 1 4 := fun n => by
          unfold wanA
          rw [if_neg (by omega), if_neg (by omega)]
        refine lp (fun (r : Int → Int → Int → Int → Int → fK) i => r (m : Int) (q : Int) (k : Int) z (i : Int) (rA m S F (wanA i (F 1) q k z))) (N := (F 1 4).toNat) ?_ ?_ jN 0 (by omega) (by unfold jN; omega)
        · intro r i hi ih
          show f_X12_want_b40B r _ _ _ _ _ _ = _
          unfold f_X12_want_b40B
          rw [r_a (rU R _), r_al (rU R _) (by omega) (by omega), va_up_self, show (4 : Int).toNat = 4 from rfl, e4, if_neg (by omega), r_a (rU R _)]
          simp (disch := first | omega | exact R | exact rU R _) only [w32_of, r_st, va_up_self, va_uu, flet_eq, zs, show (193 + 155 * (i : Int) + 30 + 13 * (q : Int) + 1 + (k : Int)).toNat = 193 + 155 * i + 30 + 13 * q + 1 + k by omega]
          rw [wanA_step i (F 1) z (by omega) (by omega)]
          exact ih
        · intro r
          show f_X12_want_b40B r _ _ _ _ _ _ = _
          unfold f_X12_want_b40B
          rw [r_a (rU R _), r_al (rU R _) (by omega) (by omega), va_up_self, show (4 : Int).toNat = 4 from rfl, e4, if_pos (by omega)]
      · rw [if_neg h3, if_neg (fun q => h3 q.2.2)]
    · rw [if_neg h2, if_neg (fun q => h2 q.2.1)]
  · rw [if_neg h1, if_neg (fun q => h1 q.1)]
end RT
-- all that a state of the class keeps, against the array
def TdX (a : Nat → Int) (C : Nat → Nat → Int) (t : Nat) : Prop := (C t 7 = a 5 ∧ C t 11 = a 6) ∧ (∀ k : Nat, (k : Int) < a 5 → C (t + 4) k = a (153 + 3 * k) ∧ C (t + 5) k = a (154 + 3 * k) ∧ C (t + 6) k = a (155 + 3 * k)) ∧ (∀ k : Nat, (k : Int) < a 6 → C (t + 7) k = a (177 + 2 * k) ∧ C (t + 8) k = a (178 + 2 * k)) ∧ (∀ f : Nat, f < 6 → C (t + 10) f = a (141 + f)) ∧ ∀ k : Nat, k < 6 → C (t + 12) k = a (147 + k)
def stOK (a : Nat → Int) : Prop := ∀ f : Nat, f < 6 → (0 ≤ a (141 + f) ∧ a (141 + f) < 64) ∧ (a (141 + f)).toNat.testBit f = false ∧ ∀ g : Nat, g < 6 → (a (141 + f)).toNat.testBit g = (a (141 + g)).toNat.testBit f
def WfX (a : Nat → Int) : Prop := ((0 ≤ a 5 ∧ a 5 ≤ 8) ∧ 0 ≤ a 6 ∧ a 6 ≤ 8) ∧ (∀ k : Nat, (k : Int) < a 5 → (0 ≤ a (153 + 3 * k) ∧ a (153 + 3 * k) < a 1) ∧ (1 ≤ a (154 + 3 * k) ∧ a (154 + 3 * k) < 4096) ∧ (0 ≤ a (155 + 3 * k) ∧ a (155 + 3 * k) ≤ 9999)) ∧ (∀ k : Nat, (k : Int) < a 6 → (0 ≤ a (177 + 2 * k) ∧ a (177 + 2 * k) < a 0) ∧ (0 ≤ a (178 + 2 * k) ∧ a (178 + 2 * k) ≤ 10)) ∧ stOK a ∧ ∀ k : Nat, k < 6 → 0 ≤ a (147 + k) ∧ a (147 + k) ≤ 10
def Rel (a : Nat → Int) (C : Nat → Nat → Int) (t h s : Nat) : Prop := Td a C t ∧ TdX a C t ∧ WfX a ∧ RlS a C h s ∧ RwO a
section RL
variable {x : Nat} {S : jSt} {C : Nat → Nat → Int} {a : Nat → Int}
theorem Rel_h {t h s : Nat} (R : Rel a C t h s) : HX a C h := R.2.2.2.1.2 0 R.2.2.2.1.1.2.2.1
theorem TdX_ext {a' : Nat → Int} {C' : Nat → Nat → Int} {t : Nat} (T : TdX a C t) (W : WfX a) (ha : ∀ k, (k = 5 ∨ k = 6 ∨ (141 ≤ k ∧ k < 193)) → a' k = a k) (hC : C' t 7 = C t 7 ∧ C' t 11 = C t 11) (hA : ∀ i, t + 4 ≤ i → i ≤ t + 12 → C' i = C i) : TdX a' C' t := by
  obtain ⟨⟨p1, p2⟩, p3, p4, p5, p6⟩ := T
  obtain ⟨⟨q1, q2⟩, _⟩ := W
  refine ⟨⟨by rw [hC.1, ha 5 (by omega)]; exact p1, by rw [hC.2, ha 6 (by omega)]; exact p2⟩, fun k hk => ?_, fun k hk => ?_, fun f hf => ?_, fun k hk => ?_⟩
  · rw [ha 5 (by omega)] at hk
    rw [hA _ (by omega) (by omega), hA _ (by omega) (by omega), hA _ (by omega) (by omega), ha (153 + 3 * k) (by omega), ha (154 + 3 * k) (by omega), ha (155 + 3 * k) (by omega)]
    exact p3 k hk
  · rw [ha 6 (by omega)] at hk
    rw [hA _ (by omega) (by omega), hA _ (by omega) (by omega), ha _ (by omega), ha _ (by omega)]
    exact p4 k hk
  · rw [hA _ (by omega) (by omega), ha _ (by omega)]
    exact p5 f hf
  · rw [hA _ (by omega) (by omega), ha _ (by omega)]
    exact p6 k hk
theorem WfX_ext {a' : Nat → Int} (W : WfX a) (ha : ∀ k, (k = 5 ∨ k = 6 ∨ (141 ≤ k ∧ k < 193)) → a' k = a k) (h0 : a 0 ≤ a' 0) (h1 : a 1 ≤ a' 1) : WfX a' := by
  obtain ⟨⟨q1, q2⟩, p3, p4, p5, p6⟩ := W
  refine ⟨⟨by rw [ha 5 (by omega)]; exact q1, by rw [ha 6 (by omega)]; exact q2⟩, fun k hk => ?_, fun k hk => ?_, fun f hf => ?_, fun k hk => ?_⟩
  · rw [ha 5 (by omega)] at hk
    rw [ha (153 + 3 * k) (by omega), ha (154 + 3 * k) (by omega), ha (155 + 3 * k) (by omega)]
    have := p3 k hk
    omega
  · rw [ha 6 (by omega)] at hk
    rw [ha (177 + 2 * k) (by omega), ha (178 + 2 * k) (by omega)]
    have := p4 k hk
    omega
  · have := p5 f hf
    rw [ha _ (by omega)]
    refine ⟨this.1, this.2.1, fun g hg => ?_⟩
    rw [ha _ (by omega)]
    exact this.2.2 g hg
  · rw [ha _ (by omega)]
    exact p6 k hk
/-- rows and the house, all changed alike -/
theorem RlS_all {a' : Nat → Int} {C' : Nat → Nat → Int} (h : RlS a C 14 20) (h4 : a' 4 = a 4) (h20 : C' 20 1 = C 20 1 ∧ C' 20 2 = C 20 2) (hu : ∀ j : Nat, (j : Int) ≤ a 4 → ∀ o, isH o → (o = 14 ∨ (22 ≤ o ∧ o < 202)) → HX (und j a) C o → HX (und j a') C' o) : RlS a' C' 14 20 := by
  obtain ⟨⟨c2, c1, c4⟩, hj⟩ := h
  refine ⟨⟨by rw [h20.2, h4]; exact c2, by rw [h20.1]; exact c1, by rw [h4]; exact c4⟩, fun j hjj => ?_⟩
  rw [h4] at hjj
  rw [h20.1, h4]
  have hx := hj j hjj
  refine hu j hjj _ ?_ ?_ hx
  · unfold offR
    split
    · exact isH_14
    · exact isH_row (by omega)
  · unfold offR
    split
    · exact Or.inl rfl
    · right
      omega
end RL
