-- odds, said, bundle
section SY
variable {x : Nat}
theorem up_same {α : Type} (F : Nat → α) (i : Nat) : va_up F i (F i) = F := by
  funext k
  by_cases h : k = i
  · subst h; rw [va_up_self]
  · rw [va_up_ne _ _ h]
theorem Rel_tx {a a' : Nat → Int} {C C' : Nat → Nat → Int} (R : Rel a C 1 14 20) (e : ∀ k, k ≠ 5 → k ≠ 6 → (k < 141 ∨ 193 ≤ k) → a' k = a k) (X : TdX a' C' 1) (WX : WfX a') (h1 : ∀ k, k ≠ 7 → k ≠ 11 → C' 1 k = C 1 k) (hC : ∀ i, i ≠ 1 → (i < 5 ∨ 13 < i) → C' i = C i) : Rel a' C' 1 14 20 := by
  have W := (Rel_h R).2.2.1
  obtain ⟨t0, t1, t2, t3, t4⟩ := R.1
  refine Rel_tld R (fun k hk => e k ?_ ?_ ?_) ?_ ?_ ⟨?_, ?_, ?_, ?_, fun l hl => ?_⟩ X WX (fun i a b => hC i (by omega) (by omega))
  · unfold tld at hk; omega
  · unfold tld at hk; omega
  · unfold tld at hk; omega
  · rw [e 2 (by omega) (by omega) (by omega)]; exact W.2.2.1
  · rw [e 2 (by omega) (by omega) (by omega), e 3 (by omega) (by omega) (by omega)]; exact W.2.2.2.1
  · rw [h1 0 (by omega) (by omega), e 0 (by omega) (by omega) (by omega)]; exact t0
  · rw [h1 1 (by omega) (by omega), e 1 (by omega) (by omega) (by omega)]; exact t1
  · rw [h1 4 (by omega) (by omega), e 2 (by omega) (by omega) (by omega)]; exact t2
  · rw [h1 6 (by omega) (by omega), e 3 (by omega) (by omega) (by omega)]; exact t3
  · have w0 := W.1
    rw [e 0 (by omega) (by omega) (by omega)] at hl
    rw [hC 2 (by omega) (by omega), hC 3 (by omega) (by omega), e _ (by omega) (by omega) (by omega), e _ (by omega) (by omega) (by omega)]
    exact t4 l hl
theorem Good_t {fc fr : jSt → Option (Int × jSt)} (hc : ∀ Z C F, INV x Z C F → CI x (gS (x + 426) 12 Z F) C → Wf (F 1) → ∃ v C' a', fc (cS x (gS (x + 426) 12 Z F) C) = some (v, cS x (gS (x + 426) 12 Z F) C') ∧ CI x (gS (x + 426) 12 Z F) C' ∧ (∀ k, k ≠ 5 → k ≠ 6 → (k < 141 ∨ 193 ≤ k) → a' k = F 1 k) ∧ TdX a' C' 1 ∧ WfX a' ∧ (∀ k, k ≠ 7 → k ≠ 11 → C' 1 k = C 1 k) ∧ (∀ i, i ≠ 1 → (i < 5 ∨ 13 < i) → C' i = C i) ∧ ∀ S2, RI (x + 426) S2 F → fr (rS (x + 426) S2 F) = some (v, rS (x + 426) S2 (va_up F 1 a'))) : Good x fc fr := Good_k (fun Z C F V R h T => by
  have I := CI_g (y := x + 426) (N := 12) (F := F) h.1.1
  obtain ⟨v, C', a', q1, q2, q3, q4, q5, q6, q7, q8⟩ := hc Z C F h I (INV_W h)
  exact ⟨v, C', a', q1, q2, Rel_tx h.2.1 q3 q4 q5 q6 q7, ⟨q7 4 (by omega) (by omega), fun i a b => q7 i (by omega) (by omega)⟩, q3 2 (by omega) (by omega) (by omega), fun S2 hS R2 => ⟨_, q8 S2 R2.1, RK_a R2.1⟩⟩)
/-- refused -/
theorem Good_n {fc fr : jSt → Option (Int × jSt)} {Z : jSt} {C F : Nat → Nat → Int} (h : INV x Z C F) (I : CI x (gS (x + 426) 12 Z F) C) (v : Int) (h1 : fc (cS x (gS (x + 426) 12 Z F) C) = some (v, cS x (gS (x + 426) 12 Z F) C)) (h2 : ∀ S2, RI (x + 426) S2 F → fr (rS (x + 426) S2 F) = some (v, rS (x + 426) S2 F)) : ∃ v C' a', fc (cS x (gS (x + 426) 12 Z F) C) = some (v, cS x (gS (x + 426) 12 Z F) C') ∧ CI x (gS (x + 426) 12 Z F) C' ∧ (∀ k, k ≠ 5 → k ≠ 6 → (k < 141 ∨ 193 ≤ k) → a' k = F 1 k) ∧ TdX a' C' 1 ∧ WfX a' ∧ (∀ k, k ≠ 7 → k ≠ 11 → C' 1 k = C 1 k) ∧ (∀ i, i ≠ 1 → (i < 5 ∨ 13 < i) → C' i = C i) ∧ ∀ S2, RI (x + 426) S2 F → fr (rS (x + 426) S2 F) = some (v, rS (x + 426) S2 (va_up F 1 a')) :=
  ⟨v, C, F 1, h1, I, fun _ _ _ _ => rfl, h.2.1.2.1, h.2.1.2.2.1, fun _ _ _ => rfl, fun _ _ _ => rfl, fun S2 R2 => by rw [up_same]; exact h2 S2 R2⟩
theorem cr12_0' {S : jSt} {C : Nat → Nat → Int} (I : CI x S C) {f : Int → Option (Int × jSt)} : fgetr (cS x S C) ((x + 12 : Nat) : Int) 3 0 f = f ((x + 13 : Nat) : Int) := c_r I (i := 12) (by decide) rfl rfl (by decide)
theorem g_odds (n z : Int) : Good x (f_X11_odds (x : Int) n z) (f_X12_odds ((x + 426 : Nat) : Int) n z) := Good_t (fun Z C F h I W => by
  by_cases hn : (0 ≤ n ∧ n ≤ 5) ∧ 0 ≤ z ∧ z ≤ 10
  · obtain ⟨k, rfl⟩ : ∃ k : Nat, n = (k : Int) := ⟨n.toNat, by omega⟩
    obtain ⟨⟨u1, u2⟩, u3, u4, u5, u6⟩ := h.2.1.2.1
    obtain ⟨⟨v1, v2⟩, v3, v4, v5, v6⟩ := h.2.1.2.2.1
    have e : ∀ q, q ≠ 147 + k → va_up (F 1) (147 + k) z q = F 1 q := fun q hq => va_up_ne _ _ hq
    have c : ∀ i, i ≠ 13 → va_up C 13 (va_up (C 13) k z) i = C i := fun i hi => va_up_ne _ _ hi
    refine ⟨1, va_up C 13 (va_up (C 13) k z), va_up (F 1) (147 + k) z, ?_, CI_ar I (fun k => rfl), fun q a b c => e q (by omega), ⟨⟨?_, ?_⟩, fun q hq => ?_, fun q hq => ?_, fun f hf => ?_, fun q hq => ?_⟩, ⟨⟨?_, ?_⟩, fun q hq => ?_, fun q hq => ?_, fun f hf => ?_, fun q hq => ?_⟩, fun q _ _ => by rw [c 1 (by omega)], fun i a b => c i (by omega), fun S2 R2 => ?_⟩
    · unfold f_X11_odds
      rw [s_within, fcall_some, if_b01, if_pos hn.1, s_within, fcall_some, if_b01, if_pos hn.2, cr0_0 I, cr1_15 I, cr12_0' I, st_13 I (by omega) (by omega), toNat_z]
    · rw [c 1 (by omega), e 5 (by omega)]; exact u1
    · rw [c 1 (by omega), e 6 (by omega)]; exact u2
    · rw [e 5 (by omega)] at hq
      rw [c _ (by omega), c _ (by omega), c _ (by omega), e _ (by omega), e _ (by omega), e _ (by omega)]; exact u3 q hq
    · rw [e 6 (by omega)] at hq
      rw [c _ (by omega), c _ (by omega), e _ (by omega), e _ (by omega)]; exact u4 q hq
    · rw [c _ (by omega), e _ (by omega)]; exact u5 f hf
    · show va_up C 13 (va_up (C 13) k z) 13 q = _
      rw [va_up_self]
      by_cases hk : q = k
      · subst hk; rw [va_up_self, va_up_self]
      · rw [va_up_ne _ _ hk, e _ (by omega)]; exact u6 q hq
    · rw [e 5 (by omega)]; exact v1
    · rw [e 6 (by omega)]; exact v2
    · rw [e 5 (by omega)] at hq
      rw [e 1 (by omega), e _ (by omega), e _ (by omega), e _ (by omega)]; exact v3 q hq
    · rw [e 6 (by omega)] at hq
      rw [e 0 (by omega), e _ (by omega), e _ (by omega)]; exact v4 q hq
    · rw [e _ (by omega)]
      refine ⟨(v5 f hf).1, (v5 f hf).2.1, fun g hg => ?_⟩
      rw [e _ (by omega)]; exact (v5 f hf).2.2 g hg
    · by_cases hk : q = k
      · subst hk; rw [va_up_self]; exact hn.2
      · rw [e _ (by omega)]; exact v6 q hq
    · unfold f_X12_odds
      rw [s_isIn, fcall_some, if_b01, if_pos hn.1, s_isIn, fcall_some, if_b01, if_pos hn.2, r_a R2, w32_of (by omega) (by omega), r_st R2 (by omega) (by omega), show (147 + (k : Int)).toNat = 147 + k by omega]
  · refine Good_n h I 0 ?_ (fun S2 R2 => ?_)
    · unfold f_X11_odds f_X11_odds_b19
      rw [s_within, fcall_some, if_b01]
      by_cases h1 : 0 ≤ n ∧ n ≤ 5
      · rw [if_pos h1, s_within, fcall_some, if_b01, if_neg (fun q => hn ⟨h1, q⟩)]
      · rw [if_neg h1]
    · unfold f_X12_odds f_X12_odds_b19
      rw [s_isIn, fcall_some, if_b01]
      by_cases h1 : 0 ≤ n ∧ n ≤ 5
      · rw [if_pos h1, s_isIn, fcall_some, if_b01, if_neg (fun q => hn ⟨h1, q⟩)]
      · rw [if_neg h1])
theorem g_said (l z : Int) : Good x (f_X11_said (x : Int) l z) (f_X12_said ((x + 426 : Nat) : Int) l z) := Good_t (fun Z C F h I W => by
  have T := h.2.1.1
  obtain ⟨⟨u1, u2⟩, u3, u4, u5, u6⟩ := h.2.1.2.1
  obtain ⟨⟨v1, v2⟩, v3, v4, v5, v6⟩ := h.2.1.2.2.1
  by_cases hm : l = -1
  · have e : ∀ q, q ≠ 6 → va_up (F 1) 6 0 q = F 1 q := fun q hq => va_up_ne _ _ hq
    have c : ∀ i, i ≠ 1 → va_up C 1 (va_up (C 1) 11 0) i = C i := fun i hi => va_up_ne _ _ hi
    refine ⟨0, va_up C 1 (va_up (C 1) 11 0), va_up (F 1) 6 0, ?_, CI_up I rfl, fun q a b c => e q (by omega), ⟨⟨?_, ?_⟩, fun q hq => ?_, fun q hq => ?_, fun f hf => ?_, fun q hq => ?_⟩, ⟨⟨?_, ?_⟩, fun q hq => ?_, fun q hq => ?_, fun f hf => ?_, fun q hq => ?_⟩, fun q _ hq => by rw [va_up_self, va_up_ne _ _ hq], fun i a b => c i a, fun S2 R2 => ?_⟩
    · unfold f_X11_said
      rw [if_pos hm, cr0_0 I, cp_1 I]
    · rw [va_up_self, va_up_ne _ _ (by decide), e 5 (by omega)]; exact u1
    · rw [va_up_self, va_up_self, va_up_self]
    · rw [e 5 (by omega)] at hq
      rw [c _ (by omega), c _ (by omega), c _ (by omega), e _ (by omega), e _ (by omega), e _ (by omega)]; exact u3 q hq
    · rw [va_up_self] at hq; omega
    · rw [c _ (by omega), e _ (by omega)]; exact u5 f hf
    · rw [c _ (by omega), e _ (by omega)]; exact u6 q hq
    · rw [e 5 (by omega)]; exact v1
    · rw [va_up_self]; omega
    · rw [e 5 (by omega)] at hq
      rw [e 1 (by omega), e _ (by omega), e _ (by omega), e _ (by omega)]; exact v3 q hq
    · rw [va_up_self] at hq; omega
    · rw [e _ (by omega)]
      refine ⟨(v5 f hf).1, (v5 f hf).2.1, fun g hg => ?_⟩
      rw [e _ (by omega)]; exact (v5 f hf).2.2 g hg
    · rw [e _ (by omega)]; exact v6 q hq
    · unfold f_X12_said
      rw [if_pos hm, r_a R2, r_st R2 (by omega) (by omega)]; rfl
  by_cases hn : (0 ≤ l ∧ l < F 1 0) ∧ (0 ≤ z ∧ z ≤ 10) ∧ F 1 6 < 8
  · obtain ⟨k, hk⟩ : ∃ k : Nat, F 1 6 = (k : Int) := ⟨(F 1 6).toNat, by omega⟩
    have k8 : k < 8 := by omega
    have I1 : CI x (gS (x + 426) 12 Z F) (va_up C 8 (va_up (C 8) k l)) := CI_ar I (fun k => rfl)
    have I2 : CI x (gS (x + 426) 12 Z F) (va_up (va_up C 8 (va_up (C 8) k l)) 9 (va_up (C 9) k z)) := CI_ar I1 (fun k => rfl)
    have c : ∀ i, i ≠ 1 → i ≠ 8 → i ≠ 9 → va_up (va_up (va_up C 8 (va_up (C 8) k l)) 9 (va_up (C 9) k z)) 1 (va_up (C 1) 11 ((k + 1 : Nat) : Int)) i = C i := fun i a b d => by rw [va_up_ne _ _ a, va_up_ne _ _ d, va_up_ne _ _ b]
    have b1 : va_up (va_up C 8 (va_up (C 8) k l)) 9 (va_up (C 9) k z) 1 = C 1 := by rw [va_up_ne _ _ (by decide), va_up_ne _ _ (by decide)]
    have I3 : CI x (gS (x + 426) 12 Z F) (va_up (va_up (va_up C 8 (va_up (C 8) k l)) 9 (va_up (C 9) k z)) 1 (va_up (C 1) 11 ((k + 1 : Nat) : Int))) := by rw [← b1]; exact CI_up I2 rfl
    have e : ∀ q, q ≠ 6 → q ≠ 177 + 2 * k → q ≠ 178 + 2 * k → va_up (va_up (va_up (F 1) (177 + 2 * k) l) (178 + 2 * k) z) 6 ((k + 1 : Nat) : Int) q = F 1 q := fun q a b d => by rw [va_up_ne _ _ a, va_up_ne _ _ d, va_up_ne _ _ b]
    have a7 : va_up (va_up (va_up (F 1) (177 + 2 * k) l) (178 + 2 * k) z) 6 ((k + 1 : Nat) : Int) (177 + 2 * k) = l := by rw [va_up_ne _ _ (by omega), va_up_ne _ _ (by omega), va_up_self]
    have a8 : va_up (va_up (va_up (F 1) (177 + 2 * k) l) (178 + 2 * k) z) 6 ((k + 1 : Nat) : Int) (178 + 2 * k) = z := by rw [va_up_ne _ _ (by omega), va_up_self]
    have a6 : va_up (va_up (va_up (F 1) (177 + 2 * k) l) (178 + 2 * k) z) 6 ((k + 1 : Nat) : Int) 6 = ((k + 1 : Nat) : Int) := va_up_self _ _ _
    have d8 : va_up (va_up (va_up C 8 (va_up (C 8) k l)) 9 (va_up (C 9) k z)) 1 (va_up (C 1) 11 ((k + 1 : Nat) : Int)) 8 = va_up (C 8) k l := by rw [va_up_ne _ _ (by decide), va_up_ne _ _ (by decide), va_up_self]
    have d9 : va_up (va_up (va_up C 8 (va_up (C 8) k l)) 9 (va_up (C 9) k z)) 1 (va_up (C 1) 11 ((k + 1 : Nat) : Int)) 9 = va_up (C 9) k z := by rw [va_up_ne _ _ (by decide), va_up_self]
    have d1 : va_up (va_up (va_up C 8 (va_up (C 8) k l)) 9 (va_up (C 9) k z)) 1 (va_up (C 1) 11 ((k + 1 : Nat) : Int)) 1 = va_up (C 1) 11 ((k + 1 : Nat) : Int) := va_up_self _ _ _
    have cl : f_X11_said (x : Int) l z (cS x (gS (x + 426) 12 Z F) C) = some (((k + 1 : Nat) : Int), cS x (gS (x + 426) 12 Z F) (va_up (va_up (va_up C 8 (va_up (C 8) k l)) 9 (va_up (C 9) k z)) 1 (va_up (C 1) 11 ((k + 1 : Nat) : Int)))) := by
      unfold f_X11_said
      rw [if_neg hm, cr0_0 I, cv_1 I, c_hasLot I T W.1, fcall_some, if_b01, if_pos hn.1, s_within, fcall_some, if_b01, if_pos hn.2.1, cr0_0 I, cg_1 I, u2, hk, if_pos (by omega), cr0_0 I, cr1_12 I, cr0_0 I, cg_1 I, u2, hk, st_8 I (by omega) (by omega), toNat_z, cr0_0 I1, cr1_13 I1, cr0_0 I1, cg_1 I1, va_up_ne C _ (show (1 : Nat) ≠ 8 by decide), u2, hk, st_9 I1 (by omega) (by omega), toNat_z, va_up_ne C _ (show (9 : Nat) ≠ 8 by decide), cr0_0 I2, cg_1 I2, b1, u2, hk, w32_of (by omega) (by omega), cp_1 I2, b1, zs, cr0_0 I3, cg_1 I3, d1, va_up_self]
    have rf : ∀ S2, RI (x + 426) S2 F → f_X12_said ((x + 426 : Nat) : Int) l z (rS (x + 426) S2 F) = some (((k + 1 : Nat) : Int), rS (x + 426) S2 (va_up F 1 (va_up (va_up (va_up (F 1) (177 + 2 * k) l) (178 + 2 * k) z) 6 ((k + 1 : Nat) : Int)))) := fun S2 R => by
      have R1 : RI (x + 426) S2 (va_up F 1 (va_up (F 1) (177 + 2 * k) l)) := rU R _
      have R2 : RI (x + 426) S2 (va_up F 1 (va_up (va_up (F 1) (177 + 2 * k) l) (178 + 2 * k) z)) := rU R _
      have R3 : RI (x + 426) S2 (va_up F 1 (va_up (va_up (va_up (F 1) (177 + 2 * k) l) (178 + 2 * k) z) 6 ((k + 1 : Nat) : Int))) := rU R _
      have y1 : va_up (F 1) (177 + 2 * k) l 6 = (k : Int) := by rw [va_up_ne _ _ (by omega)]; exact hk
      have y2 : va_up (va_up (F 1) (177 + 2 * k) l) (178 + 2 * k) z 6 = (k : Int) := by rw [va_up_ne _ _ (by omega)]; exact y1
      have up2 : ∀ v w : Nat → Int, va_up (va_up F 1 v) 1 w = va_up F 1 w := fun v w => by
        funext i
        by_cases hi : i = 1
        · subst hi; rw [va_up_self, va_up_self]
        · rw [va_up_ne _ _ hi, va_up_ne _ _ hi, va_up_ne _ _ hi]
      unfold f_X12_said
      rw [if_neg hm, r_cv R, s_isLot R W.1.1, fcall_some, if_b01, if_pos hn.1, s_isIn, fcall_some, if_b01, if_pos hn.2.1, r_a R, r_al R (by omega) (by omega), show (6 : Int).toNat = 6 from rfl, hk, if_neg (by omega), r_a R, r_a R, r_al R (by omega) (by omega), show (6 : Int).toNat = 6 from rfl, hk, w32_of (z := 2 * (k : Int)) (by omega) (by omega), w32_of (by omega) (by omega), r_st R (by omega) (by omega), show (177 + 2 * (k : Int)).toNat = 177 + 2 * k by omega, r_a R1, r_a R1, r_al R1 (by omega) (by omega), show (6 : Int).toNat = 6 from rfl, va_up_self, y1, w32_of (z := 2 * (k : Int)) (by omega) (by omega), w32_of (z := 177 + 2 * (k : Int)) (by omega) (by omega), w32_of (by omega) (by omega), r_st R1 (by omega) (by omega), show (177 + 2 * (k : Int) + 1).toNat = 178 + 2 * k by omega, va_up_self, up2, r_a R2, r_al R2 (by omega) (by omega), show (6 : Int).toNat = 6 from rfl, va_up_self, y2, w32_of (by omega) (by omega), r_st R2 (by omega) (by omega), show (6 : Int).toNat = 6 from rfl, va_up_self, up2, zs, r_a R3, r_al R3 (by omega) (by omega), show (6 : Int).toNat = 6 from rfl, va_up_self, a6]
    generalize va_up (va_up (va_up C 8 (va_up (C 8) k l)) 9 (va_up (C 9) k z)) 1 (va_up (C 1) 11 ((k + 1 : Nat) : Int)) = C' at *
    generalize va_up (va_up (va_up (F 1) (177 + 2 * k) l) (178 + 2 * k) z) 6 ((k + 1 : Nat) : Int) = a' at *
    refine ⟨_, C', a', cl, I3, fun q a b c => e q (by omega) (by omega) (by omega), ⟨⟨?_, ?_⟩, fun q hq => ?_, fun q hq => ?_, fun f hf => ?_, fun q hq => ?_⟩, ⟨⟨?_, ?_⟩, fun q hq => ?_, fun q hq => ?_, fun f hf => ?_, fun q hq => ?_⟩, fun q _ hq => by rw [d1, va_up_ne _ _ hq], fun i a b => c i (by omega) (by omega) (by omega), rf⟩
    · rw [d1, va_up_ne _ _ (by decide), e 5 (by omega) (by omega) (by omega)]; exact u1
    · rw [d1, va_up_self, a6]
    · rw [e 5 (by omega) (by omega) (by omega)] at hq
      rw [c _ (by omega) (by omega) (by omega), c _ (by omega) (by omega) (by omega), c _ (by omega) (by omega) (by omega), e _ (by omega) (by omega) (by omega), e _ (by omega) (by omega) (by omega), e _ (by omega) (by omega) (by omega)]; exact u3 q hq
    · rw [a6] at hq
      show C' 8 q = _ ∧ C' 9 q = _
      rw [d8, d9]
      by_cases hqk : q = k
      · subst hqk; rw [va_up_self, va_up_self, a7, a8]; exact ⟨rfl, rfl⟩
      · rw [va_up_ne _ _ hqk, va_up_ne _ _ hqk, e _ (by omega) (by omega) (by omega), e _ (by omega) (by omega) (by omega)]
        exact u4 q (by omega)
    · rw [c _ (by omega) (by omega) (by omega), e _ (by omega) (by omega) (by omega)]; exact u5 f hf
    · rw [c _ (by omega) (by omega) (by omega), e _ (by omega) (by omega) (by omega)]; exact u6 q hq
    · rw [e 5 (by omega) (by omega) (by omega)]; exact v1
    · rw [a6]; omega
    · rw [e 5 (by omega) (by omega) (by omega)] at hq
      have := v1
      rw [e 1 (by omega) (by omega) (by omega), e _ (by omega) (by omega) (by omega), e _ (by omega) (by omega) (by omega), e _ (by omega) (by omega) (by omega)]; exact v3 q hq
    · rw [a6] at hq
      rw [e 0 (by omega) (by omega) (by omega)]
      by_cases hqk : q = k
      · subst hqk; rw [a7, a8]; exact ⟨hn.1, hn.2.1⟩
      · rw [e _ (by omega) (by omega) (by omega), e _ (by omega) (by omega) (by omega)]
        exact v4 q (by omega)
    · rw [e _ (by omega) (by omega) (by omega)]
      refine ⟨(v5 f hf).1, (v5 f hf).2.1, fun g hg => ?_⟩
      rw [e _ (by omega) (by omega) (by omega)]; exact (v5 f hf).2.2 g hg
    · rw [e _ (by omega) (by omega) (by omega)]; exact v6 q hq
  · refine Good_n h I (-2) ?_ (fun S2 R2 => ?_)
    · unfold f_X11_said f_X11_said_b48
      rw [if_neg hm, cr0_0 I, cv_1 I, c_hasLot I T W.1, fcall_some, if_b01]
      by_cases h1 : 0 ≤ l ∧ l < F 1 0
      · rw [if_pos h1, s_within, fcall_some, if_b01]
        by_cases h2 : 0 ≤ z ∧ z ≤ 10
        · rw [if_pos h2, cr0_0 I, cg_1 I, u2, if_neg (fun q => hn ⟨h1, h2, q⟩)]
        · rw [if_neg h2]
      · rw [if_neg h1]
    · unfold f_X12_said f_X12_said_b45
      rw [if_neg hm, r_cv R2, s_isLot R2 W.1.1, fcall_some, if_b01]
      by_cases h1 : 0 ≤ l ∧ l < F 1 0
      · rw [if_pos h1, s_isIn, fcall_some, if_b01]
        by_cases h2 : 0 ≤ z ∧ z ≤ 10
        · have : ¬ F 1 6 < 8 := fun q => hn ⟨h1, h2, q⟩
          rw [if_pos h2, r_a R2, r_al R2 (by omega) (by omega), show (6 : Int).toNat = 6 from rfl, if_pos (by omega)]
        · rw [if_neg h2]
      · rw [if_neg h1])
theorem c_hasL {S : jSt} {C : Nat → Nat → Int} {a : Nat → Int} (I : CI x S C) (T : Td a C 1) (W : WfN a) (s : Int) : f_X10_hasLots ((x + 1 : Nat) : Int) s (cS x S C) = some (b01 (0 ≤ s ∧ s < ((2 ^ (a 0).toNat : Nat) : Int)), cS x S C) := by
  have w0 := W.1
  unfold f_X10_hasLots f_X10_hasLots_b18 f_X10_hasLots_b19 b01
  by_cases h : s < 0
  · rw [if_pos h, if_neg (by omega)]
  · have e : a 0 = (((a 0).toNat : Nat) : Int) := by omega
    rw [if_neg h, cg_1 I, T.1]
    rw [show ishl32 1 (a 0) = ((2 ^ (a 0).toNat : Nat) : Int) from by
      have := ishl_n (k := (a 0).toNat) (by omega)
      rw [← e] at this
      exact this]
    by_cases h2 : ((2 ^ (a 0).toNat : Nat) : Int) ≤ s
    · rw [if_pos h2, if_neg (by omega)]
    · rw [if_neg h2, if_pos (by omega)]
theorem pow_b {n : Int} (h : 0 ≤ n ∧ n ≤ 12) : 1 ≤ ((2 ^ n.toNat : Nat) : Int) ∧ ((2 ^ n.toNat : Nat) : Int) ≤ 4096 ∧ ishl32 1 n = ((2 ^ n.toNat : Nat) : Int) := by
  have e : n = ((n.toNat : Nat) : Int) := by omega
  have h1 : 2 ^ n.toNat ≤ 2 ^ 12 := Nat.pow_le_pow_right (by omega) (by omega)
  have h2 : 0 < 2 ^ n.toNat := Nat.pow_pos (by omega)
  have h3 : (2 : Nat) ^ 12 = 4096 := rfl
  refine ⟨by omega, by omega, ?_⟩
  have := ishl_n (k := n.toNat) (by omega)
  rw [← e] at this
  exact this
theorem g_bundle (b s p : Int) : Good x (f_X11_bundle (x : Int) b s p) (f_X12_bundle ((x + 426 : Nat) : Int) b s p) := Good_t (fun Z C F h I W => by
  have T := h.2.1.1
  obtain ⟨⟨u1, u2⟩, u3, u4, u5, u6⟩ := h.2.1.2.1
  obtain ⟨⟨v1, v2⟩, v3, v4, v5, v6⟩ := h.2.1.2.2.1
  by_cases hm : b = -1
  · have e : ∀ q, q ≠ 5 → va_up (F 1) 5 0 q = F 1 q := fun q hq => va_up_ne _ _ hq
    have c : ∀ i, i ≠ 1 → va_up C 1 (va_up (C 1) 7 0) i = C i := fun i hi => va_up_ne _ _ hi
    refine ⟨0, va_up C 1 (va_up (C 1) 7 0), va_up (F 1) 5 0, ?_, CI_up I rfl, fun q a b c => e q (by omega), ⟨⟨?_, ?_⟩, fun q hq => ?_, fun q hq => ?_, fun f hf => ?_, fun q hq => ?_⟩, ⟨⟨?_, ?_⟩, fun q hq => ?_, fun q hq => ?_, fun f hf => ?_, fun q hq => ?_⟩, fun q hq _ => by rw [va_up_self, va_up_ne _ _ hq], fun i a b => c i a, fun S2 R2 => ?_⟩
    · unfold f_X11_bundle
      rw [if_pos hm, cr0_0 I, cp_1 I]
    · rw [va_up_self, va_up_self, va_up_self]
    · rw [va_up_self, va_up_ne _ _ (by decide), e 6 (by omega)]; exact u2
    · rw [va_up_self] at hq; omega
    · rw [e 6 (by omega)] at hq
      rw [c _ (by omega), c _ (by omega), e _ (by omega), e _ (by omega)]; exact u4 q hq
    · rw [c _ (by omega), e _ (by omega)]; exact u5 f hf
    · rw [c _ (by omega), e _ (by omega)]; exact u6 q hq
    · rw [va_up_self]; omega
    · rw [e 6 (by omega)]; exact v2
    · rw [va_up_self] at hq; omega
    · rw [e 6 (by omega)] at hq
      rw [e 0 (by omega), e _ (by omega), e _ (by omega)]; exact v4 q hq
    · rw [e _ (by omega)]
      refine ⟨(v5 f hf).1, (v5 f hf).2.1, fun g hg => ?_⟩
      rw [e _ (by omega)]; exact (v5 f hf).2.2 g hg
    · rw [e _ (by omega)]; exact v6 q hq
    · unfold f_X12_bundle
      rw [if_pos hm, r_a R2, r_st R2 (by omega) (by omega)]; rfl
  obtain ⟨P1, P2, P3⟩ := pow_b W.1.1
  by_cases hn : (0 ≤ b ∧ b < F 1 1) ∧ (1 ≤ s ∧ s < ((2 ^ (F 1 0).toNat : Nat) : Int)) ∧ (0 ≤ p ∧ p ≤ 9999) ∧ F 1 5 < 8
  · obtain ⟨k, hk⟩ : ∃ k : Nat, F 1 5 = (k : Int) := ⟨(F 1 5).toNat, by omega⟩
    have k8 : k < 8 := by omega
    have I1 : CI x (gS (x + 426) 12 Z F) (va_up C 5 (va_up (C 5) k b)) := CI_ar I (fun k => rfl)
    have I2 : CI x (gS (x + 426) 12 Z F) (va_up (va_up C 5 (va_up (C 5) k b)) 6 (va_up (C 6) k s)) := CI_ar I1 (fun k => rfl)
    have I3 : CI x (gS (x + 426) 12 Z F) (va_up (va_up (va_up C 5 (va_up (C 5) k b)) 6 (va_up (C 6) k s)) 7 (va_up (C 7) k p)) := CI_ar I2 (fun k => rfl)
    have b1 : va_up (va_up (va_up C 5 (va_up (C 5) k b)) 6 (va_up (C 6) k s)) 7 (va_up (C 7) k p) 1 = C 1 := by rw [va_up_ne _ _ (by decide), va_up_ne _ _ (by decide), va_up_ne _ _ (by decide)]
    have b0 : va_up (va_up C 5 (va_up (C 5) k b)) 6 (va_up (C 6) k s) 1 = C 1 := by rw [va_up_ne _ _ (by decide), va_up_ne _ _ (by decide)]
    have b7 : va_up (va_up C 5 (va_up (C 5) k b)) 6 (va_up (C 6) k s) 7 = C 7 := by rw [va_up_ne _ _ (by decide), va_up_ne _ _ (by decide)]
    obtain ⟨C', hC'⟩ : ∃ C', C' = va_up (va_up (va_up (va_up C 5 (va_up (C 5) k b)) 6 (va_up (C 6) k s)) 7 (va_up (C 7) k p)) 1 (va_up (C 1) 7 ((k + 1 : Nat) : Int)) := ⟨_, rfl⟩
    obtain ⟨a', ha'⟩ : ∃ a', a' = va_up (va_up (va_up (va_up (F 1) (153 + 3 * k) b) (154 + 3 * k) s) (155 + 3 * k) p) 5 ((k + 1 : Nat) : Int) := ⟨_, rfl⟩
    have c : ∀ i, i ≠ 1 → i ≠ 5 → i ≠ 6 → i ≠ 7 → C' i = C i := fun i q1 q2 q3 q4 => by rw [hC', va_up_ne _ _ q1, va_up_ne _ _ q4, va_up_ne _ _ q3, va_up_ne _ _ q2]
    have I4 : CI x (gS (x + 426) 12 Z F) C' := by rw [hC', ← b1]; exact CI_up I3 rfl
    have e : ∀ q, q ≠ 5 → q ≠ 153 + 3 * k → q ≠ 154 + 3 * k → q ≠ 155 + 3 * k → a' q = F 1 q := fun q q1 q2 q3 q4 => by rw [ha', va_up_ne _ _ q1, va_up_ne _ _ q4, va_up_ne _ _ q3, va_up_ne _ _ q2]
    have a3 : a' (153 + 3 * k) = b := by rw [ha', va_up_ne _ _ (by omega), va_up_ne _ _ (by omega), va_up_ne _ _ (by omega), va_up_self]
    have a4 : a' (154 + 3 * k) = s := by rw [ha', va_up_ne _ _ (by omega), va_up_ne _ _ (by omega), va_up_self]
    have a5 : a' (155 + 3 * k) = p := by rw [ha', va_up_ne _ _ (by omega), va_up_self]
    have a6 : a' 5 = ((k + 1 : Nat) : Int) := by rw [ha', va_up_self]
    have d5 : C' 5 = va_up (C 5) k b := by rw [hC', va_up_ne _ _ (by decide), va_up_ne _ _ (by decide), va_up_ne _ _ (by decide), va_up_self]
    have d6 : C' 6 = va_up (C 6) k s := by rw [hC', va_up_ne _ _ (by decide), va_up_ne _ _ (by decide), va_up_self]
    have d7 : C' 7 = va_up (C 7) k p := by rw [hC', va_up_ne _ _ (by decide), va_up_self]
    have d1 : C' 1 = va_up (C 1) 7 ((k + 1 : Nat) : Int) := by rw [hC', va_up_self]
    have cl : f_X11_bundle (x : Int) b s p (cS x (gS (x + 426) 12 Z F) C) = some (((k + 1 : Nat) : Int), cS x (gS (x + 426) 12 Z F) C') := by
      unfold f_X11_bundle
      rw [if_neg hm, cr0_0 I, cv_1 I, c_hasBidder I T W.1, fcall_some, if_b01, if_pos hn.1, if_neg (by omega), cr0_0 I, cv_1 I, c_hasL I T W.1, fcall_some, if_b01, if_pos (by omega), s_within, fcall_some, if_b01, if_pos hn.2.2.1, cr0_0 I, cg_1 I, u1, hk, if_pos (by omega), cr0_0 I, cr1_8 I, cr0_0 I, cg_1 I, u1, hk, st_5 I (by omega) (by omega), toNat_z, cr0_0 I1, cr1_9 I1, cr0_0 I1, cg_1 I1, va_up_ne C _ (show (1 : Nat) ≠ 5 by decide), u1, hk, st_6 I1 (by omega) (by omega), toNat_z, va_up_ne C _ (show (6 : Nat) ≠ 5 by decide), cr0_0 I2, cr1_10 I2, cr0_0 I2, cg_1 I2, b0, u1, hk, st_7 I2 (by omega) (by omega), toNat_z, b7, cr0_0 I3, cg_1 I3, b1, u1, hk, w32_of (by omega) (by omega), cp_1 I3, b1, zs, ← hC', cr0_0 I4, cg_1 I4, d1, va_up_self]
    have rf : ∀ S2, RI (x + 426) S2 F → f_X12_bundle ((x + 426 : Nat) : Int) b s p (rS (x + 426) S2 F) = some (((k + 1 : Nat) : Int), rS (x + 426) S2 (va_up F 1 a')) := fun S2 R => by
      have R1 : RI (x + 426) S2 (va_up F 1 (va_up (F 1) (153 + 3 * k) b)) := rU R _
      have R2 : RI (x + 426) S2 (va_up F 1 (va_up (va_up (F 1) (153 + 3 * k) b) (154 + 3 * k) s)) := rU R _
      have R3 : RI (x + 426) S2 (va_up F 1 (va_up (va_up (va_up (F 1) (153 + 3 * k) b) (154 + 3 * k) s) (155 + 3 * k) p)) := rU R _
      have R4 : RI (x + 426) S2 (va_up F 1 a') := rU R _
      have y2 : va_up (va_up (va_up (F 1) (153 + 3 * k) b) (154 + 3 * k) s) (155 + 3 * k) p 5 = (k : Int) := by rw [va_up_ne _ _ (by omega), va_up_ne _ _ (by omega), va_up_ne _ _ (by omega)]; exact hk
      have up2 : ∀ v w : Nat → Int, va_up (va_up F 1 v) 1 w = va_up F 1 w := fun v w => by
        funext i
        by_cases hi : i = 1
        · subst hi; rw [va_up_self, va_up_self]
        · rw [va_up_ne _ _ hi, va_up_ne _ _ hi, va_up_ne _ _ hi]
      unfold f_X12_bundle
      rw [if_neg hm, r_cv R, s_isBidder R W.1.2.1, fcall_some, if_b01, if_pos hn.1, r_a R, r_al R (by omega) (by omega), show (0 : Int).toNat = 0 from rfl, P3, w32_of (by omega) (by omega), s_isIn, fcall_some, if_b01, if_pos (by omega), s_isIn, fcall_some, if_b01, if_pos hn.2.2.1, r_a R, r_al R (by omega) (by omega), show (5 : Int).toNat = 5 from rfl, hk, if_neg (by omega), r_a R, r_al R (by omega) (by omega), show (5 : Int).toNat = 5 from rfl, hk, w32_of (z := 3 * (k : Int)) (by omega) (by omega), w32_of (z := 153 + 3 * (k : Int)) (by omega) (by omega), flet_eq, r_a R, r_st R (by omega) (by omega), show (153 + 3 * (k : Int)).toNat = 153 + 3 * k by omega, r_a R1, w32_of (z := 153 + 3 * (k : Int) + 1) (by omega) (by omega), r_st R1 (by omega) (by omega), show (153 + 3 * (k : Int) + 1).toNat = 154 + 3 * k by omega, va_up_self, up2, r_a R2, w32_of (z := 153 + 3 * (k : Int) + 2) (by omega) (by omega), r_st R2 (by omega) (by omega), show (153 + 3 * (k : Int) + 2).toNat = 155 + 3 * k by omega, va_up_self, up2, r_a R3, r_al R3 (by omega) (by omega), show (5 : Int).toNat = 5 from rfl, va_up_self, y2, w32_of (by omega) (by omega), r_st R3 (by omega) (by omega), show (5 : Int).toNat = 5 from rfl, va_up_self, up2, zs, ← ha', r_a R4, r_al R4 (by omega) (by omega), show (5 : Int).toNat = 5 from rfl, va_up_self, a6]
    clear hC' ha'
    refine ⟨_, C', a', cl, I4, fun q a b c => e q (by omega) (by omega) (by omega) (by omega), ⟨⟨?_, ?_⟩, fun q hq => ?_, fun q hq => ?_, fun f hf => ?_, fun q hq => ?_⟩, ⟨⟨?_, ?_⟩, fun q hq => ?_, fun q hq => ?_, fun f hf => ?_, fun q hq => ?_⟩, fun q hq _ => by rw [d1, va_up_ne _ _ hq], fun i a b => c i (by omega) (by omega) (by omega) (by omega), rf⟩
    · rw [d1, va_up_self, a6]
    · rw [d1, va_up_ne _ _ (by decide), e 6 (by omega) (by omega) (by omega) (by omega)]; exact u2
    · rw [a6] at hq
      show C' 5 q = _ ∧ C' 6 q = _ ∧ C' 7 q = _
      rw [d5, d6, d7]
      by_cases hqk : q = k
      · subst hqk; rw [va_up_self, va_up_self, va_up_self, a3, a4, a5]; exact ⟨rfl, rfl, rfl⟩
      · rw [va_up_ne _ _ hqk, va_up_ne _ _ hqk, va_up_ne _ _ hqk, e _ (by omega) (by omega) (by omega) (by omega), e _ (by omega) (by omega) (by omega) (by omega), e _ (by omega) (by omega) (by omega) (by omega)]
        exact u3 q (by omega)
    · rw [e 6 (by omega) (by omega) (by omega) (by omega)] at hq
      rw [c _ (by omega) (by omega) (by omega) (by omega), c _ (by omega) (by omega) (by omega) (by omega), e _ (by omega) (by omega) (by omega) (by omega), e _ (by omega) (by omega) (by omega) (by omega)]; exact u4 q hq
    · rw [c _ (by omega) (by omega) (by omega) (by omega), e _ (by omega) (by omega) (by omega) (by omega)]; exact u5 f hf
    · rw [c _ (by omega) (by omega) (by omega) (by omega), e _ (by omega) (by omega) (by omega) (by omega)]; exact u6 q hq
    · rw [a6]; omega
    · rw [e 6 (by omega) (by omega) (by omega) (by omega)]; exact v2
    · rw [a6] at hq
      rw [e 1 (by omega) (by omega) (by omega) (by omega)]
      by_cases hqk : q = k
      · subst hqk; rw [a3, a4, a5]; exact ⟨hn.1, ⟨hn.2.1.1, by omega⟩, hn.2.2.1⟩
      · rw [e _ (by omega) (by omega) (by omega) (by omega), e _ (by omega) (by omega) (by omega) (by omega), e _ (by omega) (by omega) (by omega) (by omega)]
        exact v3 q (by omega)
    · rw [e 6 (by omega) (by omega) (by omega) (by omega)] at hq
      rw [e 0 (by omega) (by omega) (by omega) (by omega), e _ (by omega) (by omega) (by omega) (by omega), e _ (by omega) (by omega) (by omega) (by omega)]; exact v4 q hq
    · rw [e _ (by omega) (by omega) (by omega) (by omega)]
      refine ⟨(v5 f hf).1, (v5 f hf).2.1, fun g hg => ?_⟩
      rw [e _ (by omega) (by omega) (by omega) (by omega)]; exact (v5 f hf).2.2 g hg
    · rw [e _ (by omega) (by omega) (by omega) (by omega)]; exact v6 q hq
  · refine Good_n h I (-2) ?_ (fun S2 R2 => ?_)
    · unfold f_X11_bundle f_X11_bundle_b52
      rw [if_neg hm, cr0_0 I, cv_1 I, c_hasBidder I T W.1, fcall_some, if_b01]
      by_cases h1 : 0 ≤ b ∧ b < F 1 1
      · rw [if_pos h1]
        by_cases h0 : s = 0
        · rw [if_pos h0]
        rw [if_neg h0, cr0_0 I, cv_1 I, c_hasL I T W.1, fcall_some, if_b01]
        by_cases h2 : 0 ≤ s ∧ s < ((2 ^ (F 1 0).toNat : Nat) : Int)
        · rw [if_pos h2, s_within, fcall_some, if_b01]
          by_cases h3 : 0 ≤ p ∧ p ≤ 9999
          · rw [if_pos h3, cr0_0 I, cg_1 I, u1, if_neg (fun q => hn ⟨h1, ⟨by omega, h2.2⟩, h3, q⟩)]
          · rw [if_neg h3]
        · rw [if_neg h2]
      · rw [if_neg h1]
    · unfold f_X12_bundle f_X12_bundle_b62
      rw [if_neg hm, r_cv R2, s_isBidder R2 W.1.2.1, fcall_some, if_b01]
      by_cases h1 : 0 ≤ b ∧ b < F 1 1
      · rw [if_pos h1, r_a R2, r_al R2 (by omega) (by omega), show (0 : Int).toNat = 0 from rfl, P3, w32_of (by omega) (by omega), s_isIn, fcall_some, if_b01]
        by_cases h2 : 1 ≤ s ∧ s ≤ ((2 ^ (F 1 0).toNat : Nat) : Int) - 1
        · rw [if_pos h2, s_isIn, fcall_some, if_b01]
          by_cases h3 : 0 ≤ p ∧ p ≤ 9999
          · have : ¬ F 1 5 < 8 := fun q => hn ⟨h1, ⟨h2.1, by omega⟩, h3, q⟩
            rw [if_pos h3, r_a R2, r_al R2 (by omega) (by omega), show (5 : Int).toNat = 5 from rfl, if_pos (by omega)]
          · rw [if_neg h3]
        · rw [if_neg h2]
      · rw [if_neg h1])
end SY
