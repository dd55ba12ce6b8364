def KF (C C' : Nat → Nat → Int) : Prop := C' 4 = C 4 ∧ ∀ i, 202 ≤ i → i ≤ 412 → C' i = C i
section TC
variable {x : Nat} {S : jSt} {C : Nat → Nat → Int} {a : Nat → Int}
theorem KF_r (C : Nat → Nat → Int) : KF C C := ⟨rfl, fun _ _ _ => rfl⟩
theorem KF_t {C1 C2 : Nat → Nat → Int} (h1 : KF C C1) (h2 : KF C1 C2) : KF C C2 := ⟨h2.1.trans h1.1, fun i q1 q2 => (h2.2 i q1 q2).trans (h1.2 i q1 q2)⟩
theorem RwO_lot (fl wo we : Int) (h : 0 ≤ a 0 ∧ a 0 < 12) (h4 : a 4 ≤ 30) (R : RwO a) : RwO (lotA a fl wo we) := by
  intro k hk
  rw [lotA_H fl wo we h (by omega) (by omega)] at hk
  have := R k hk
  rw [lotA_H fl wo we h (k := 193 + 155 * k) (by omega) (by omega), lotA_H fl wo we h (k := 194 + 155 * k) (by omega) (by omega), lotA_0 fl wo we h, lotA_H fl wo we h (k := 1) (by omega) (by omega)]
  omega
theorem RwO_bid (p : Int) (h : 0 ≤ a 1 ∧ a 1 < 5) (R : RwO a) : RwO (bidA a p) := by
  intro k hk
  rw [bidA_H p h (by omega) (by omega)] at hk
  have := R k hk
  rw [bidA_H p h (k := 193 + 155 * k) (by omega) (by omega), bidA_H p h (k := 194 + 155 * k) (by omega) (by omega), bidA_1, bidA_H p h (k := 0) (by omega) (by omega)]
  omega
theorem RwO_wan {n b l : Nat} {z : Int} (hb : b < 5) (hl : l < 12) (R : RwO a) : RwO (wanA n a b l z) := by
  have lH : ∀ k, k < 193 → k ≠ 72 + 14 * b + l → wanA n a b l z k = a k := fun k q1 q2 => by
    unfold wanA
    rw [if_neg q2, if_neg (by omega)]
  intro k hk
  rw [lH 4 (by omega) (by omega)] at hk
  have := R k hk
  have e1 : wanA n a b l z (193 + 155 * k) = a (193 + 155 * k) := by
    unfold wanA
    rw [if_neg (by omega), if_neg (by omega)]
  have e2 : wanA n a b l z (194 + 155 * k) = a (194 + 155 * k) := by
    unfold wanA
    rw [if_neg (by omega), if_neg (by omega)]
  rw [e1, e2, lH 0 (by omega) (by omega), lH 1 (by omega) (by omega)]
  exact this
theorem c_lot (I : CI x S C) (R : Rel a C 1 14 20) (fl wo we : Int) : ∃ C', f_X11_lot (x : Int) fl wo we (cS x S C) = some (if (0 ≤ fl ∧ fl ≤ 5) ∧ (0 ≤ wo ∧ wo ≤ 99) ∧ (1 ≤ we ∧ we ≤ 9) ∧ ¬ a 0 = 12 then a 0 else -1, cS x S C') ∧ CI x S C' ∧ Rel (if (0 ≤ fl ∧ fl ≤ 5) ∧ (0 ≤ wo ∧ wo ≤ 99) ∧ (1 ≤ we ∧ we ≤ 9) ∧ ¬ a 0 = 12 then lotA a fl wo we else a) C' 1 14 20 ∧ KF C C' := by
  have R0 := R
  have hX := Rel_h R
  obtain ⟨T, TX, WX, RS, RO⟩ := R
  obtain ⟨w0, w1, w2, w3, w4, w7, w8, w9, w10⟩ := hX.2.2.1
  unfold f_X11_lot f_X11_lot_b29
  rw [s_within, fcall_some, if_b01]
  by_cases h1 : 0 ≤ fl ∧ fl ≤ 5
  · rw [if_pos h1, s_within, fcall_some, if_b01]
    by_cases h2 : 0 ≤ wo ∧ wo ≤ 99
    · rw [if_pos h2, s_within, fcall_some, if_b01]
      by_cases h3 : 1 ≤ we ∧ we ≤ 9
      · rw [if_pos h3, cr0_0 I, cg_1 I, T.1]
        by_cases h4 : a 0 = 12
        · rw [if_neg (by omega), if_neg (fun q => q.2.2.2 h4), if_neg (fun q => q.2.2.2 h4)]
          exact ⟨C, rfl, I, R0, KF_r C⟩
        · rw [if_pos (by omega), if_pos ⟨h1, h2, h3, h4⟩, if_pos ⟨h1, h2, h3, h4⟩]
          obtain ⟨n, en⟩ : ∃ n : Nat, a 0 = (n : Int) := ⟨(a 0).toNat, by omega⟩
          have hn : n < 12 := by omega
          have h012 : 0 ≤ a 0 ∧ a 0 < 12 := by omega
          rw [cr0_0 I, cg_1 I, T.1, cr0_0 I, cr1_2 I, en, st_2 I (by omega) (by omega), toNat_z]
          have I1 : CI x S (va_up C 2 (va_up (C 2) n wo)) := CI_ar I (fun k => rfl)
          rw [cr0_0 I1, cr1_3 I1, st_3 I1 (by omega) (by omega), toNat_z]
          have I2 : CI x S (va_up (va_up C 2 (va_up (C 2) n wo)) 3 (va_up (va_up C 2 (va_up (C 2) n wo) 3) n we)) := CI_ar I1 (fun k => rfl)
          rw [cr0_0 I2, cg_1 I2]
          generalize hC2 : va_up (va_up C 2 (va_up (C 2) n wo)) 3 (va_up (va_up C 2 (va_up (C 2) n wo) 3) n we) = C2 at *
          have e2 : C2 2 = va_up (C 2) n wo := by rw [← hC2, va_up_ne _ _ (by decide), va_up_self]
          have e3 : C2 3 = va_up (C 3) n we := by rw [← hC2, va_up_self, va_up_ne C _ (by decide)]
          have f2 : ∀ i, i ≠ 2 → i ≠ 3 → C2 i = C i := fun i q1 q2 => by rw [← hC2, va_up_ne _ _ q2, va_up_ne _ _ q1]
          rw [f2 1 (by decide) (by decide), T.1, en, w32_of (by omega) (by omega), cp_1 I2, f2 1 (by decide) (by decide)]
          have I3 : CI x S (va_up C2 1 (va_up (C2 1) 0 ((n : Int) + 1))) := CI_up I2 rfl
          rw [f2 1 (by decide) (by decide)] at I3
          rw [cr0_1 I3, crh_1 I3 isH_14, sth_2 I3 isH_14 (by omega) (by omega), toNat_z, va_up_ne _ _ (show 14 + 2 ≠ 1 by decide), f2 (14 + 2) (by decide) (by decide)]
          have I4 : CI x S (va_up (va_up C2 1 (va_up (C 1) 0 ((n : Int) + 1))) (14 + 2) (va_up (C (14 + 2)) n fl)) := CI_ha I3 isH_14 (by omega) (by omega)
          obtain ⟨C5, v5, I5, g5, f5⟩ := c_tellFloor I4 (l := n) hn fl
          rw [cr0_2 I4, cv_20 I4, v5, fcall_some]
          have fr : ∀ i, i ≠ 1 → i ≠ 2 → i ≠ 3 → i ≠ 14 + 2 → (∀ r, r < 30 → i ≠ 20 + 2 + 6 * r + 2) → C5 i = C i := fun i q1 q2 q3 q4 q5 => by rw [f5 i q5, va_up_ne _ _ q4, va_up_ne _ _ q1, f2 i q2 q3]
          have e51 : C5 1 = va_up (C 1) 0 ((n : Int) + 1) := by rw [f5 1 (fun r hr => by omega), va_up_ne _ _ (by decide), va_up_self]
          have e52 : C5 2 = va_up (C 2) n wo := by rw [f5 2 (fun r hr => by omega), va_up_ne _ _ (by decide), va_up_ne _ _ (by decide), e2]
          have e53 : C5 3 = va_up (C 3) n we := by rw [f5 3 (fun r hr => by omega), va_up_ne _ _ (by decide), va_up_ne _ _ (by decide), e3]
          have e516 : C5 (14 + 2) = va_up (C (14 + 2)) n fl := by rw [f5 _ (fun r hr => by omega), va_up_self]
          have e5r : ∀ r, r < 30 → C5 (20 + 2 + 6 * r + 2) = va_up (C (20 + 2 + 6 * r + 2)) n fl := fun r hr => by rw [g5 r hr, va_up_ne _ _ (by omega), va_up_ne _ _ (by omega), f2 _ (by omega) (by omega)]
          have e20 : C5 20 = C 20 := fr 20 (by omega) (by omega) (by omega) (by omega) (fun r hr => by omega)
          refine ⟨C5, rfl, I5, ⟨?_, ?_, ?_, ?_, ?_⟩, fr 4 (by omega) (by omega) (by omega) (by omega) (fun r hr => by omega), fun i q1 q2 => fr i (by omega) (by omega) (by omega) (by omega) (fun r hr => by omega)⟩
          · refine ⟨?_, ?_, ?_, ?_, fun l hl => ?_⟩
            · rw [e51, va_up_self, lotA_0 fl wo we h012, en]
            · rw [e51, va_up_ne _ _ (by decide), lotA_H fl wo we h012 (by omega) (by omega)]; exact T.2.1
            · rw [e51, va_up_ne _ _ (by decide), lotA_H fl wo we h012 (by omega) (by omega)]; exact T.2.2.1
            · rw [e51, va_up_ne _ _ (by decide), lotA_H fl wo we h012 (by omega) (by omega)]; exact T.2.2.2.1
            · rw [lotA_0 fl wo we h012] at hl
              show C5 2 l = _ ∧ C5 3 l = _
              rw [e52, e53]
              by_cases e : l = n
              · subst e
                have n2 := lotA_N (a := a) fl wo we h012 (w := 2) (by omega)
                have n3 := lotA_N (a := a) fl wo we h012 (w := 3) (by omega)
                rw [en, toNat_z] at n2 n3
                rw [va_up_self, va_up_self, show 13 + 5 * l = 11 + 5 * l + 2 by omega, show 14 + 5 * l = 11 + 5 * l + 3 by omega, n2, n3]
                exact ⟨rfl, rfl⟩
              · have n2 := lotA_O (a := a) fl wo we h012 (l := l) (w := 2) (by omega) (by omega)
                have n3 := lotA_O (a := a) fl wo we h012 (l := l) (w := 3) (by omega) (by omega)
                rw [va_up_ne _ _ e, va_up_ne _ _ e, show 13 + 5 * l = 11 + 5 * l + 2 by omega, show 14 + 5 * l = 11 + 5 * l + 3 by omega, n2, n3, show 11 + 5 * l + 2 = 13 + 5 * l by omega, show 11 + 5 * l + 3 = 14 + 5 * l by omega]
                exact T.2.2.2.2 l (by omega)
          · exact TdX_ext TX WX (fun k hk => lotA_H fl wo we h012 (by omega) (by omega)) ⟨by rw [e51, va_up_ne _ _ (by decide)], by rw [e51, va_up_ne _ _ (by decide)]⟩ (fun i q1 q2 => fr i (by omega) (by omega) (by omega) (by omega) (fun r hr => by omega))
          · exact WfX_ext WX (fun k hk => lotA_H fl wo we h012 (by omega) (by omega)) (by rw [lotA_0 fl wo we h012]; omega) (by rw [lotA_H fl wo we h012 (by omega) (by omega)]; omega)
          · refine RlS_all RS (lotA_H fl wo we h012 (by omega) (by omega)) ⟨by rw [e20], by rw [e20]⟩ (fun j hj o ho ho2 hx => ?_)
            rw [und_lot fl wo we j h012 w4.2 RO hj]
            have u0 : und j a 0 = a 0 := und_lo j a (by omega)
            refine HX_lot hx (by rw [u0]; omega) h1 h2 h3 ?_ (fun i q1 q2 q3 => ?_)
            · rw [u0, en, toNat_z]
              rcases ho2 with rfl | ho2
              · exact e516
              · obtain ⟨r, rfl⟩ : ∃ r, o = 20 + 2 + 6 * r := ⟨(o - 22) / 6, by unfold isH at ho; omega⟩
                exact e5r r (by omega)
            · unfold isH at ho
              exact fr i (by omega) (by omega) (by omega) (by omega) (fun r hr => by omega)
          · exact RwO_lot fl wo we h012 w4.2 RO
      · rw [if_neg h3, if_neg (fun q => h3 q.2.2.1), if_neg (fun q => h3 q.2.2.1)]
        exact ⟨C, rfl, I, R0, KF_r C⟩
    · rw [if_neg h2, if_neg (fun q => h2 q.2.1), if_neg (fun q => h2 q.2.1)]
      exact ⟨C, rfl, I, R0, KF_r C⟩
  · rw [if_neg h1, if_neg (fun q => h1 q.1), if_neg (fun q => h1 q.1)]
    exact ⟨C, rfl, I, R0, KF_r C⟩
theorem c_bidder (I : CI x S C) (R : Rel a C 1 14 20) (p : Int) : ∃ C', f_X11_bidder (x : Int) p (cS x S C) = some (if (0 ≤ p ∧ p ≤ 9999) ∧ ¬ a 1 = 5 then a 1 else -1, cS x S C') ∧ CI x S C' ∧ Rel (if (0 ≤ p ∧ p ≤ 9999) ∧ ¬ a 1 = 5 then bidA a p else a) C' 1 14 20 ∧ KF C C' := by
  have R0 := R
  have hX := Rel_h R
  obtain ⟨T, TX, WX, RS, RO⟩ := R
  obtain ⟨w0, w1, w2, w3, w4, w7, w8, w9, w10⟩ := hX.2.2.1
  unfold f_X11_bidder f_X11_bidder_b22
  rw [s_within, fcall_some, if_b01]
  by_cases h1 : 0 ≤ p ∧ p ≤ 9999
  · rw [if_pos h1, cr0_0 I, cg_1 I, T.2.1]
    by_cases h4 : a 1 = 5
    · rw [if_neg (by omega), if_neg (fun q => q.2 h4), if_neg (fun q => q.2 h4)]
      exact ⟨C, rfl, I, R0, KF_r C⟩
    · rw [if_pos (by omega), if_pos ⟨h1, h4⟩, if_pos ⟨h1, h4⟩]
      obtain ⟨n, en⟩ : ∃ n : Nat, a 1 = (n : Int) := ⟨(a 1).toNat, by omega⟩
      have hn : n < 5 := by omega
      have h012 : 0 ≤ a 1 ∧ a 1 < 5 := by omega
      rw [cr0_0 I, cg_1 I, T.2.1, cr0_0 I, cg_1 I, T.2.1, en, w32_of (by omega) (by omega), cp_1 I]
      have I3 : CI x S (va_up C 1 (va_up (C 1) 1 ((n : Int) + 1))) := CI_up I rfl
      rw [cr0_1 I3, crh_2 I3 isH_14, sth_3 I3 isH_14 (by omega) (by omega), toNat_z, va_up_ne _ _ (show 14 + 3 ≠ 1 by decide)]
      have I4 : CI x S (va_up (va_up C 1 (va_up (C 1) 1 ((n : Int) + 1))) (14 + 3) (va_up (C (14 + 3)) n p)) := CI_ha I3 isH_14 (by omega) (by omega)
      obtain ⟨C5, v5, I5, g5, f5⟩ := c_tellPurse I4 (l := n) hn p
      rw [cr0_2 I4, cv_20 I4, v5, fcall_some]
      have fr : ∀ i, i ≠ 1 → i ≠ 14 + 3 → (∀ r, r < 30 → i ≠ 20 + 2 + 6 * r + 3) → C5 i = C i := fun i q1 q4 q5 => by rw [f5 i q5, va_up_ne _ _ q4, va_up_ne _ _ q1]
      have e51 : C5 1 = va_up (C 1) 1 ((n : Int) + 1) := by rw [f5 1 (fun r hr => by omega), va_up_ne _ _ (by decide), va_up_self]
      have e516 : C5 (14 + 3) = va_up (C (14 + 3)) n p := by rw [f5 _ (fun r hr => by omega), va_up_self]
      have e5r : ∀ r, r < 30 → C5 (20 + 2 + 6 * r + 3) = va_up (C (20 + 2 + 6 * r + 3)) n p := fun r hr => by rw [g5 r hr, va_up_ne _ _ (by omega), va_up_ne _ _ (by omega)]
      have e20 : C5 20 = C 20 := fr 20 (by omega) (by omega) (fun r hr => by omega)
      have bH : ∀ k, k ≠ 1 → (k < 71 ∨ 141 ≤ k) → bidA a p k = a k := fun k q1 q2 => bidA_H p h012 q1 q2
      refine ⟨C5, rfl, I5, ⟨?_, ?_, ?_, ?_, ?_⟩, fr 4 (by omega) (by omega) (fun r hr => by omega), fun i q1 q2 => fr i (by omega) (by omega) (fun r hr => by omega)⟩
      · refine ⟨?_, ?_, ?_, ?_, fun l hl => ?_⟩
        · rw [e51, va_up_ne _ _ (by decide), bH _ (by omega) (by omega)]; exact T.1
        · rw [e51, va_up_self, bidA_1, en]
        · rw [e51, va_up_ne _ _ (by decide), bH _ (by omega) (by omega)]; exact T.2.2.1
        · rw [e51, va_up_ne _ _ (by decide), bH _ (by omega) (by omega)]; exact T.2.2.2.1
        · rw [bH _ (by omega) (by omega)] at hl
          rw [fr (1 + 1) (by omega) (by omega) (fun r hr => by omega), fr (1 + 2) (by omega) (by omega) (fun r hr => by omega), bH _ (by omega) (by omega), bH _ (by omega) (by omega)]
          exact T.2.2.2.2 l hl
      · exact TdX_ext TX WX (fun k hk => bH k (by omega) (by omega)) ⟨by rw [e51, va_up_ne _ _ (by decide)], by rw [e51, va_up_ne _ _ (by decide)]⟩ (fun i q1 q2 => fr i (by omega) (by omega) (fun r hr => by omega))
      · exact WfX_ext WX (fun k hk => bH k (by omega) (by omega)) (by rw [bH 0 (by omega) (by omega)]; omega) (by rw [bidA_1]; omega)
      · refine RlS_all RS (bH 4 (by omega) (by omega)) ⟨by rw [e20], by rw [e20]⟩ (fun j hj o ho ho2 hx => ?_)
        rw [und_bid p j h012 w4.2 RO hj]
        have u0 : und j a 1 = a 1 := und_lo j a (by omega)
        refine HX_bid hx (by rw [u0]; omega) h1 ?_ (fun i q1 q2 q3 => ?_)
        · rw [u0, en, toNat_z]
          rcases ho2 with rfl | ho2
          · exact e516
          · obtain ⟨r, rfl⟩ : ∃ r, o = 20 + 2 + 6 * r := ⟨(o - 22) / 6, by unfold isH at ho; omega⟩
            exact e5r r (by omega)
        · unfold isH at ho
          exact fr i (by omega) (by omega) (fun r hr => by omega)
      · exact RwO_bid p h012 RO
  · rw [if_neg h1, if_neg (fun q => h1 q.1), if_neg (fun q => h1 q.1)]
    exact ⟨C, rfl, I, R0, KF_r C⟩
theorem c_want (I : CI x S C) (R : Rel a C 1 14 20) (b l z : Int) : ∃ C', f_X11_want (x : Int) b l z (cS x S C) = some (if (0 ≤ b ∧ b < a 1) ∧ (0 ≤ l ∧ l < a 0) ∧ (0 ≤ z ∧ z ≤ 99) then 1 else 0, cS x S C') ∧ CI x S C' ∧ Rel (if (0 ≤ b ∧ b < a 1) ∧ (0 ≤ l ∧ l < a 0) ∧ (0 ≤ z ∧ z ≤ 99) then wanA (a 4).toNat a b.toNat l.toNat z else a) C' 1 14 20 ∧ KF C C' := by
  have R0 := R
  have hX := Rel_h R
  obtain ⟨T, TX, WX, RS, RO⟩ := R
  obtain ⟨w0, w1, w2, w3, w4, w7, w8, w9, w10⟩ := hX.2.2.1
  have WN := hX.2.2.1
  unfold f_X11_want f_X11_want_b32
  rw [cr0_0 I, cv_1 I, c_hasBidder I T WN, fcall_some, if_b01]
  by_cases h1 : 0 ≤ b ∧ b < a 1
  · rw [if_pos h1, cr0_0 I, cv_1 I, c_hasLot I T WN, fcall_some, if_b01]
    by_cases h2 : 0 ≤ l ∧ l < a 0
    · rw [if_pos h2, s_within, fcall_some, if_b01]
      by_cases h3 : 0 ≤ z ∧ z ≤ 99
      · rw [if_pos h3, if_pos ⟨h1, h2, h3⟩, if_pos ⟨h1, h2, h3⟩]
        obtain ⟨q, eq⟩ : ∃ q : Nat, b = (q : Int) := ⟨b.toNat, by omega⟩
        obtain ⟨k, ek⟩ : ∃ k : Nat, l = (k : Int) := ⟨l.toNat, by omega⟩
        subst eq
        subst ek
        have hq : q < 5 := by omega
        have hk : k < 12 := by omega
        rw [toNat_z, toNat_z, cr0_1 I, crh_3 I isH_14, c_wantAt q k hq hk, fcall_some, sth_4 I isH_14 (by omega) (by omega), toNat_z]
        have I4 : CI x S (va_up C (14 + 4) (va_up (C (14 + 4)) (12 * q + k) z)) := CI_ha I isH_14 (by omega) (by omega)
        obtain ⟨C5, v5, I5, g5, f5⟩ := c_tellWant I4 (l := 12 * q + k) (by omega) z
        rw [cr0_2 I4, c_wantAt q k hq hk, fcall_some, cv_20 I4, v5, fcall_some]
        have fr : ∀ i, i ≠ 14 + 4 → (∀ r, r < 30 → i ≠ 20 + 2 + 6 * r + 4) → C5 i = C i := fun i q4 q5 => by rw [f5 i q5, va_up_ne _ _ q4]
        have e516 : C5 (14 + 4) = va_up (C (14 + 4)) (12 * q + k) z := by rw [f5 _ (fun r hr => by omega), va_up_self]
        have e5r : ∀ r, r < 30 → C5 (20 + 2 + 6 * r + 4) = va_up (C (20 + 2 + 6 * r + 4)) (12 * q + k) z := fun r hr => by rw [g5 r hr, va_up_ne _ _ (by omega)]
        have e20 : C5 20 = C 20 := fr 20 (by omega) (fun r hr => by omega)
        have bH : ∀ j, j ≠ 72 + 14 * q + k → j < 193 → wanA (a 4).toNat a q k z j = a j := fun j q1 q2 => by
          unfold wanA
          rw [if_neg q1, if_neg (by omega)]
        refine ⟨C5, rfl, I5, ⟨?_, ?_, ?_, ?_, ?_⟩, fr 4 (by omega) (fun r hr => by omega), fun i q1 q2 => fr i (by omega) (fun r hr => by omega)⟩
        · refine ⟨?_, ?_, ?_, ?_, fun l hl => ?_⟩
          · rw [fr 1 (by omega) (fun r hr => by omega), bH _ (by omega) (by omega)]; exact T.1
          · rw [fr 1 (by omega) (fun r hr => by omega), bH _ (by omega) (by omega)]; exact T.2.1
          · rw [fr 1 (by omega) (fun r hr => by omega), bH _ (by omega) (by omega)]; exact T.2.2.1
          · rw [fr 1 (by omega) (fun r hr => by omega), bH _ (by omega) (by omega)]; exact T.2.2.2.1
          · rw [bH _ (by omega) (by omega)] at hl
            rw [fr (1 + 1) (by omega) (fun r hr => by omega), fr (1 + 2) (by omega) (fun r hr => by omega), bH _ (by omega) (by omega), bH _ (by omega) (by omega)]
            exact T.2.2.2.2 l hl
        · exact TdX_ext TX WX (fun j hj => bH j (by omega) (by omega)) ⟨by rw [fr 1 (by omega) (fun r hr => by omega)], by rw [fr 1 (by omega) (fun r hr => by omega)]⟩ (fun i q1 q2 => fr i (by omega) (fun r hr => by omega))
        · exact WfX_ext WX (fun j hj => bH j (by omega) (by omega)) (by rw [bH 0 (by omega) (by omega)]; omega) (by rw [bH 1 (by omega) (by omega)]; omega)
        · refine RlS_all RS (bH 4 (by omega) (by omega)) ⟨by rw [e20], by rw [e20]⟩ (fun j hj o ho ho2 hx => ?_)
          rw [und_wan z (by omega) hq hk j h1.2 (by omega) hj]
          have u0 : und j a 0 = a 0 := und_lo j a (by omega)
          have u1 : und j a 1 = a 1 := und_lo j a (by omega)
          refine HX_wan hx (by rw [u1]; exact h1.2) (by rw [u0]; exact h2.2) h3 (by omega) ?_ (fun i q1 q2 q3 => ?_)
          · rcases ho2 with rfl | ho2
            · exact e516
            · obtain ⟨r, rfl⟩ : ∃ r, o = 20 + 2 + 6 * r := ⟨(o - 22) / 6, by unfold isH at ho; omega⟩
              exact e5r r (by omega)
          · unfold isH at ho
            exact fr i (by omega) (fun r hr => by omega)
        · exact RwO_wan hq hk RO
      · rw [if_neg h3, if_neg (fun q => h3 q.2.2), if_neg (fun q => h3 q.2.2)]
        exact ⟨C, rfl, I, R0, KF_r C⟩
    · rw [if_neg h2, if_neg (fun q => h2 q.2.1), if_neg (fun q => h2 q.2.1)]
      exact ⟨C, rfl, I, R0, KF_r C⟩
  · rw [if_neg h1, if_neg (fun q => h1 q.1), if_neg (fun q => h1 q.1)]
    exact ⟨C, rfl, I, R0, KF_r C⟩
end TC
