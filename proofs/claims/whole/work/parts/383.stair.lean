-- stair, gone
section SR
variable {x : Nat}
def turnA (a : Nat → Int) (f g : Nat) : Nat → Int := va_up (va_up a (141 + f) (((a (141 + f)).toNat ^^^ 2 ^ g : Nat) : Int)) (141 + g) (((a (141 + g)).toNat ^^^ 2 ^ f : Nat) : Int)
theorem xor64 {n k : Nat} (hn : n < 64) (hk : k < 6) : n ^^^ 2 ^ k < 64 := Nat.xor_lt_two_pow (n := 6) hn (Nat.pow_lt_pow_right (by decide) hk)
theorem turnA_t {a : Nat → Int} {f g : Nat} (hne : f ≠ g) (h : Nat) (k : Nat) : (turnA a f g (141 + h)).toNat.testBit k = ((a (141 + h)).toNat.testBit k ^^ decide ((h = f ∧ k = g) ∨ (h = g ∧ k = f))) := by
  unfold turnA
  by_cases hg : h = g
  · subst hg
    rw [va_up_self, toNat_z, Nat.testBit_xor, Nat.testBit_two_pow]
    congr 1
    by_cases e : f = k
    · rw [decide_eq_true e, decide_eq_true (Or.inr ⟨rfl, e.symm⟩)]
    · rw [decide_eq_false e, decide_eq_false (fun z => by rcases z with z | z <;> omega)]
  · rw [va_up_ne _ _ (by omega)]
    by_cases hf : h = f
    · subst hf
      rw [va_up_self, toNat_z, Nat.testBit_xor, Nat.testBit_two_pow]
      congr 1
      by_cases e : g = k
      · rw [decide_eq_true e, decide_eq_true (Or.inl ⟨rfl, e.symm⟩)]
      · rw [decide_eq_false e, decide_eq_false (fun z => by rcases z with z | z <;> omega)]
    · rw [va_up_ne _ _ (by omega), decide_eq_false (fun z => by rcases z with z | z <;> omega), Bool.xor_false]
theorem turnA_k {a : Nat → Int} {f g : Nat} (k : Nat) (h1 : k ≠ 141 + f) (h2 : k ≠ 141 + g) : turnA a f g k = a k := by
  unfold turnA
  rw [va_up_ne _ _ h2, va_up_ne _ _ h1]
theorem stOK_turn {a : Nat → Int} {f g : Nat} (hf : f < 6) (hg : g < 6) (hne : f ≠ g) (h : stOK a) : stOK (turnA a f g) := by
  intro k hk
  refine ⟨?_, ?_, fun l hl => ?_⟩
  · have h0 := (h k hk).1
    by_cases e1 : k = g
    · subst e1
      unfold turnA
      rw [va_up_self]
      have := xor64 (n := (a (141 + k)).toNat) (by omega) hf
      omega
    · by_cases e2 : k = f
      · subst e2
        unfold turnA
        rw [va_up_ne _ _ (by omega), va_up_self]
        have := xor64 (n := (a (141 + k)).toNat) (by omega) hg
        omega
      · rw [turnA_k _ (by omega) (by omega)]; exact h0
  · rw [turnA_t hne, (h k hk).2.1, decide_eq_false (fun z => by rcases z with z | z <;> omega)]; rfl
  · rw [turnA_t hne, turnA_t hne, (h k hk).2.2 l hl]
    congr 1
    by_cases e : (k = f ∧ l = g) ∨ (k = g ∧ l = f)
    · rw [decide_eq_true e, decide_eq_true (by omega)]
    · rw [decide_eq_false e, decide_eq_false (by omega)]
theorem cr10_0' {S : jSt} {C : Nat → Nat → Int} (I : CI x S C) {f : Int → Option (Int × jSt)} : fgetr (cS x S C) ((x + 10 : Nat) : Int) 7 0 f = f ((x + 11 : Nat) : Int) := c_r I (i := 10) (by decide) rfl rfl (by decide)
theorem s_unlike (f g : Int) (S : jSt) : f_X11_unlikeFloors f g S = some (b01 (f ≠ g ∧ (0 ≤ f ∧ f ≤ 5) ∧ 0 ≤ g ∧ g ≤ 5), S) := by
  unfold f_X11_unlikeFloors f_X11_unlikeFloors_b27 f_X11_unlikeFloors_b28 b01
  by_cases h : f = g
  · rw [if_pos h, if_neg (fun z => z.1 h)]
  · rw [if_neg h, s_within, fcall_some, if_b01]
    by_cases h1 : 0 ≤ f ∧ f ≤ 5
    · rw [if_pos h1, s_within, fcall_some, if_b01]
      by_cases h2 : 0 ≤ g ∧ g ≤ 5
      · rw [if_pos h2, if_pos ⟨h, h1, h2⟩]
      · rw [if_neg h2, if_neg (fun z => h2 z.2.2)]
    · rw [if_neg h1, if_neg (fun z => h1 z.2.1)]
theorem c_joins {S : jSt} {C : Nat → Nat → Int} {a : Nat → Int} (I : CI x S C) (X : TdX a C 1) (W : stOK a) {f g : Nat} (hf : f < 6) (hg : g < 6) : f_X7_joins ((x + 10 : Nat) : Int) (f : Int) (g : Int) (cS x S C) = some (b01 ((a (141 + f)).toNat.testBit g = true), cS x S C) := by
  have e : C 11 f = a (141 + f) := X.2.2.2.1 f hf
  have w := (W f hf).1
  unfold f_X7_joins f_X7_joins_b18
  rw [cr10_0' I, al_11 I (by omega) (by omega), toNat_z, e, show a (141 + f) = (((a (141 + f)).toNat : Nat) : Int) by omega, bit_n (by omega) (by omega), toNat_z]
  unfold b01
  by_cases h : (a (141 + f)).toNat.testBit g = true
  · rw [if_pos h, if_neg (by decide)]
  · rw [if_neg h, if_pos rfl]
theorem c_turn {S : jSt} {C : Nat → Nat → Int} {a : Nat → Int} (I : CI x S C) (X : TdX a C 1) (W : stOK a) {f g : Nat} (hf : f < 6) (hg : g < 6) (hne : f ≠ g) : f_X7_turn ((x + 10 : Nat) : Int) (f : Int) (g : Int) (cS x S C) = some (0, cS x S (va_up C 11 (va_up (va_up (C 11) f (((a (141 + f)).toNat ^^^ 2 ^ g : Nat) : Int)) g (((a (141 + g)).toNat ^^^ 2 ^ f : Nat) : Int)))) := by
  have e1 : C 11 f = a (141 + f) := X.2.2.2.1 f hf
  have e2 : C 11 g = a (141 + g) := X.2.2.2.1 g hg
  have w1 := (W f hf).1
  have w2 := (W g hg).1
  have p1 : 2 ^ g < 64 := Nat.pow_lt_pow_right (by decide) (show g < 6 from hg)
  have p2 : 2 ^ f < 64 := Nat.pow_lt_pow_right (by decide) (show f < 6 from hf)
  have I1 : CI x S (va_up C 11 (va_up (C 11) f (((a (141 + f)).toNat ^^^ 2 ^ g : Nat) : Int))) := CI_ar I (fun k => rfl)
  have x1 : ixor32 (a (141 + f)) (ishl32 1 (g : Int)) = (((a (141 + f)).toNat ^^^ 2 ^ g : Nat) : Int) := by
    have := ixor_n (a := (a (141 + f)).toNat) (b := 2 ^ g) (by omega) (by omega)
    rw [show (((a (141 + f)).toNat : Nat) : Int) = a (141 + f) by omega] at this
    rw [ishl_n (by omega)]
    exact this
  have x2 : ixor32 (a (141 + g)) (ishl32 1 (f : Int)) = (((a (141 + g)).toNat ^^^ 2 ^ f : Nat) : Int) := by
    have := ixor_n (a := (a (141 + g)).toNat) (b := 2 ^ f) (by omega) (by omega)
    rw [show (((a (141 + g)).toNat : Nat) : Int) = a (141 + g) by omega] at this
    rw [ishl_n (by omega)]
    exact this
  unfold f_X7_turn
  rw [cr10_0' I, al_11 I (by omega) (by omega), toNat_z, e1, x1, st_11 I (by omega) (by omega), toNat_z, cr10_0' I1, al_11 I1 (by omega) (by omega), toNat_z, va_up_self, va_up_ne _ _ (Ne.symm hne), e2, x2, st_11 I1 (by omega) (by omega), toNat_z, va_up_self]
  congr 3
  funext i
  by_cases hi : i = 11
  · subst hi; rw [va_up_self, va_up_self]
  · rw [va_up_ne _ _ hi, va_up_ne _ _ hi, va_up_ne _ _ hi]
theorem s_turn {m : Nat} {S : jSt} {F : Nat → Nat → Int} (R : RI m S F) (W : stOK (F 1)) {f g : Nat} (hf : f < 6) (hg : g < 6) (hne : f ≠ g) : f_X12_turnStair (m : Int) (f : Int) (g : Int) (rS m S F) = some (0, rS m S (va_up F 1 (turnA (F 1) f g))) := by
  have w1 := (W f hf).1
  have w2 := (W g hg).1
  have p1 : 2 ^ g < 64 := Nat.pow_lt_pow_right (by decide) (show g < 6 from hg)
  have p2 : 2 ^ f < 64 := Nat.pow_lt_pow_right (by decide) (show f < 6 from hf)
  have R1 : RI m S (va_up F 1 (va_up (F 1) (141 + f) (((F 1 (141 + f)).toNat ^^^ 2 ^ g : Nat) : Int))) := rU R _
  have x1 : ixor32 (F 1 (141 + f)) (ishl32 1 (g : Int)) = (((F 1 (141 + f)).toNat ^^^ 2 ^ g : Nat) : Int) := by
    have := ixor_n (a := (F 1 (141 + f)).toNat) (b := 2 ^ g) (by omega) (by omega)
    rw [show (((F 1 (141 + f)).toNat : Nat) : Int) = F 1 (141 + f) by omega] at this
    rw [ishl_n (by omega)]
    exact this
  have x2 : ixor32 (F 1 (141 + g)) (ishl32 1 (f : Int)) = (((F 1 (141 + g)).toNat ^^^ 2 ^ f : Nat) : Int) := by
    have := ixor_n (a := (F 1 (141 + g)).toNat) (b := 2 ^ f) (by omega) (by omega)
    rw [show (((F 1 (141 + g)).toNat : Nat) : Int) = F 1 (141 + g) by omega] at this
    rw [ishl_n (by omega)]
    exact this
  unfold f_X12_turnStair turnA
  rw [w32_of (z := 141 + (f : Int)) (by omega) (by omega), w32_of (z := 141 + (g : Int)) (by omega) (by omega), r_a R, r_al R (by omega) (by omega), show (141 + (f : Int)).toNat = 141 + f by omega, x1, r_st R (by omega) (by omega), show (141 + (f : Int)).toNat = 141 + f by omega, r_a R1, r_al R1 (by omega) (by omega), show (141 + (g : Int)).toNat = 141 + g by omega, va_up_self, va_up_ne _ _ (show 141 + g ≠ 141 + f by omega), x2, r_st R1 (by omega) (by omega), show (141 + (g : Int)).toNat = 141 + g by omega, va_up_self]
  congr 3
  funext i
  by_cases hi : i = 1
  · subst hi; rw [va_up_self, va_up_self]
  · rw [va_up_ne _ _ hi, va_up_ne _ _ hi, va_up_ne _ _ hi]
/-- a stair is turned -/
theorem Good_tn {fc fr : jSt → Option (Int × jSt)} {Z : jSt} {C F : Nat → Nat → Int} (h : INV x Z C F) (I : CI x (gS (x + 426) 12 Z F) C) (v : Int) {f g : Nat} (hf : f < 6) (hg : g < 6) (hne : f ≠ g) (h1 : fc (cS x (gS (x + 426) 12 Z F) C) = some (v, cS x (gS (x + 426) 12 Z F) (va_up C 11 (va_up (va_up (C 11) f (((F 1 (141 + f)).toNat ^^^ 2 ^ g : Nat) : Int)) g (((F 1 (141 + g)).toNat ^^^ 2 ^ f : Nat) : Int))))) (h2 : ∀ S2, RI (x + 426) S2 F → fr (rS (x + 426) S2 F) = some (v, rS (x + 426) S2 (va_up F 1 (turnA (F 1) f g)))) : ∃ v C' a', fc (cS x (gS (x + 426) 12 Z F) C) = some (v, cS x (gS (x + 426) 12 Z F) C') ∧ CI x (gS (x + 426) 12 Z F) C' ∧ (∀ k, k ≠ 5 → k ≠ 6 → (k < 141 ∨ 193 ≤ k) → a' k = F 1 k) ∧ TdX a' C' 1 ∧ WfX a' ∧ (∀ k, k ≠ 7 → k ≠ 11 → C' 1 k = C 1 k) ∧ (∀ i, i ≠ 1 → (i < 5 ∨ 13 < i) → C' i = C i) ∧ ∀ S2, RI (x + 426) S2 F → fr (rS (x + 426) S2 F) = some (v, rS (x + 426) S2 (va_up F 1 a')) := by
  obtain ⟨⟨u1, u2⟩, u3, u4, u5, u6⟩ := h.2.1.2.1
  obtain ⟨⟨v1, v2⟩, v3, v4, v5, v6⟩ := h.2.1.2.2.1
  have c : ∀ i, i ≠ 11 → va_up C 11 (va_up (va_up (C 11) f (((F 1 (141 + f)).toNat ^^^ 2 ^ g : Nat) : Int)) g (((F 1 (141 + g)).toNat ^^^ 2 ^ f : Nat) : Int)) i = C i := fun i hi => va_up_ne _ _ hi
  have e : ∀ k, (k < 141 ∨ 147 ≤ k) → turnA (F 1) f g k = F 1 k := fun k hk => turnA_k k (by omega) (by omega)
  refine ⟨v, _, turnA (F 1) f g, h1, CI_ar I (fun k => rfl), fun k a b d => e k (by omega), ⟨⟨?_, ?_⟩, fun q hq => ?_, fun q hq => ?_, fun k hk => ?_, fun q hq => ?_⟩, ⟨⟨?_, ?_⟩, fun q hq => ?_, fun q hq => ?_, stOK_turn hf hg hne v5, fun q hq => ?_⟩, fun q _ _ => by rw [c 1 (by omega)], fun i a b => c i (by omega), h2⟩
  · rw [c 1 (by omega), e 5 (by omega)]; exact u1
  · rw [c 1 (by omega), e 6 (by omega)]; exact u2
  · rw [e 5 (by omega)] at hq
    rw [c _ (by omega), c _ (by omega), c _ (by omega), e _ (by omega), e _ (by omega), e _ (by omega)]; exact u3 q hq
  · rw [e 6 (by omega)] at hq
    rw [c _ (by omega), c _ (by omega), e _ (by omega), e _ (by omega)]; exact u4 q hq
  · show va_up C 11 _ 11 k = _
    rw [va_up_self]
    unfold turnA
    by_cases k1 : k = g
    · subst k1; rw [va_up_self, va_up_self]
    · rw [va_up_ne _ _ k1, va_up_ne _ _ (show 141 + k ≠ 141 + g by omega)]
      by_cases k2 : k = f
      · subst k2; rw [va_up_self, va_up_self]
      · rw [va_up_ne _ _ k2, va_up_ne _ _ (show 141 + k ≠ 141 + f by omega)]; exact u5 k hk
  · rw [c _ (by omega), e _ (by omega)]; exact u6 q hq
  · rw [e 5 (by omega)]; exact v1
  · rw [e 6 (by omega)]; exact v2
  · rw [e 5 (by omega)] at hq
    rw [e 1 (by omega), e _ (by omega), e _ (by omega), e _ (by omega)]; exact v3 q hq
  · rw [e 6 (by omega)] at hq
    rw [e 0 (by omega), e _ (by omega), e _ (by omega)]; exact v4 q hq
  · rw [e _ (by omega)]; exact v6 q hq
theorem s_hasB {m : Nat} {S : jSt} {F : Nat → Nat → Int} (W : stOK (F 1)) {f g : Nat} (hf : f < 6) (hg : g < 6) : f_X12_has (F 1 (141 + f)) (g : Int) (rS m S F) = some (b01 ((F 1 (141 + f)).toNat.testBit g = true), rS m S F) := by
  have w := (W f hf).1
  have := s_has (s := (F 1 (141 + f)).toNat) (k := g) (by omega) (by omega) (rS m S F)
  rw [show (((F 1 (141 + f)).toNat : Nat) : Int) = F 1 (141 + f) by omega] at this
  exact this
theorem g_stair (a b : Int) : Good x (f_X11_stair (x : Int) a b) (f_X12_stair ((x + 426 : Nat) : Int) a b) := Good_t (fun Z C F h I W => by
  have X := h.2.1.2.1
  have st := h.2.1.2.2.1.2.2.2.1
  by_cases hn : a ≠ b ∧ (0 ≤ a ∧ a ≤ 5) ∧ 0 ≤ b ∧ b ≤ 5
  · obtain ⟨f, rfl⟩ : ∃ k : Nat, a = (k : Int) := ⟨a.toNat, by omega⟩
    obtain ⟨g, rfl⟩ : ∃ k : Nat, b = (k : Int) := ⟨b.toNat, by omega⟩
    have hf : f < 6 := by omega
    have hg : g < 6 := by omega
    have hne : f ≠ g := by omega
    by_cases hj : (F 1 (141 + f)).toNat.testBit g = true
    · refine Good_n h I 0 ?_ (fun S2 R => ?_)
      · unfold f_X11_stair f_X11_stair_b23
        rw [s_unlike, fcall_some, if_b01, if_pos hn, cr0_0 I, cr1_14 I, c_v I (i := 10) (by decide) rfl, c_joins I X st hf hg, fcall_some, if_b01, if_pos hj]
      · unfold f_X12_stair f_X12_stair_b36
        rw [s_isFloor, fcall_some, if_b01, if_pos hn.2.1, s_isFloor, fcall_some, if_b01, if_pos hn.2.2, if_neg hn.1, r_a R, w32_of (by omega) (by omega), r_al R (by omega) (by omega), show (141 + (f : Int)).toNat = 141 + f by omega, s_hasB st hf hg, fcall_some, if_b01, if_pos hj]
    · refine Good_tn h I 1 hf hg hne ?_ (fun S2 R => ?_)
      · unfold f_X11_stair
        rw [s_unlike, fcall_some, if_b01, if_pos hn, cr0_0 I, cr1_14 I, c_v I (i := 10) (by decide) rfl, c_joins I X st hf hg, fcall_some, if_b01, if_neg hj, cr0_0 I, cr1_14 I, c_v I (i := 10) (by decide) rfl, c_turn I X st hf hg hne, fcall_some]
      · unfold f_X12_stair
        rw [s_isFloor, fcall_some, if_b01, if_pos hn.2.1, s_isFloor, fcall_some, if_b01, if_pos hn.2.2, if_neg hn.1, r_a R, w32_of (by omega) (by omega), r_al R (by omega) (by omega), show (141 + (f : Int)).toNat = 141 + f by omega, s_hasB st hf hg, fcall_some, if_b01, if_neg hj, r_cv R, s_turn R st hf hg hne, fcall_some]
  · refine Good_n h I 0 ?_ (fun S2 R => ?_)
    · unfold f_X11_stair f_X11_stair_b23
      rw [s_unlike, fcall_some, if_b01, if_neg hn]
    · unfold f_X12_stair f_X12_stair_b36
      rw [s_isFloor, fcall_some, if_b01]
      by_cases h1 : 0 ≤ a ∧ a ≤ 5
      · rw [if_pos h1, s_isFloor, fcall_some, if_b01]
        by_cases h2 : 0 ≤ b ∧ b ≤ 5
        · rw [if_pos h2, if_pos (Decidable.byContradiction (fun z => hn ⟨z, h1, h2⟩))]
        · rw [if_neg h2]
      · rw [if_neg h1])
theorem g_gone (a b : Int) : Good x (f_X11_gone (x : Int) a b) (f_X12_gone ((x + 426 : Nat) : Int) a b) := Good_t (fun Z C F h I W => by
  have X := h.2.1.2.1
  have st := h.2.1.2.2.1.2.2.2.1
  by_cases hn : (0 ≤ a ∧ a ≤ 5) ∧ 0 ≤ b ∧ b ≤ 5
  · obtain ⟨f, rfl⟩ : ∃ k : Nat, a = (k : Int) := ⟨a.toNat, by omega⟩
    obtain ⟨g, rfl⟩ : ∃ k : Nat, b = (k : Int) := ⟨b.toNat, by omega⟩
    have hf : f < 6 := by omega
    have hg : g < 6 := by omega
    by_cases hj : (F 1 (141 + f)).toNat.testBit g = true
    · have hne : f ≠ g := fun z => by
        subst z
        rw [(st f hf).2.1] at hj
        exact Bool.noConfusion hj
      refine Good_tn h I 1 hf hg hne ?_ (fun S2 R => ?_)
      · unfold f_X11_gone
        rw [s_unlike, fcall_some, if_b01, if_pos ⟨by omega, hn⟩, cr0_0 I, cr1_14 I, c_v I (i := 10) (by decide) rfl, c_joins I X st hf hg, fcall_some, if_b01, if_pos hj, cr0_0 I, cr1_14 I, c_v I (i := 10) (by decide) rfl, c_turn I X st hf hg hne, fcall_some]
      · unfold f_X12_gone
        rw [s_isFloor, fcall_some, if_b01, if_pos hn.1, s_isFloor, fcall_some, if_b01, if_pos hn.2, r_a R, w32_of (by omega) (by omega), r_al R (by omega) (by omega), show (141 + (f : Int)).toNat = 141 + f by omega, s_hasB st hf hg, fcall_some, if_b01, if_pos hj, r_cv R, s_turn R st hf hg hne, fcall_some]
    · refine Good_n h I 0 ?_ (fun S2 R => ?_)
      · unfold f_X11_gone f_X11_gone_b23
        rw [s_unlike, fcall_some, if_b01]
        by_cases hne : f = g
        · rw [if_neg (fun z => z.1 (by omega))]
        · rw [if_pos ⟨by omega, hn⟩, cr0_0 I, cr1_14 I, c_v I (i := 10) (by decide) rfl, c_joins I X st hf hg, fcall_some, if_b01, if_neg hj]
      · unfold f_X12_gone f_X12_gone_b31
        rw [s_isFloor, fcall_some, if_b01, if_pos hn.1, s_isFloor, fcall_some, if_b01, if_pos hn.2, r_a R, w32_of (by omega) (by omega), r_al R (by omega) (by omega), show (141 + (f : Int)).toNat = 141 + f by omega, s_hasB st hf hg, fcall_some, if_b01, if_neg hj]
  · refine Good_n h I 0 ?_ (fun S2 R => ?_)
    · unfold f_X11_gone f_X11_gone_b23
      rw [s_unlike, fcall_some, if_b01, if_neg (fun z => hn z.2)]
    · unfold f_X12_gone f_X12_gone_b31
      rw [s_isFloor, fcall_some, if_b01]
      by_cases h1 : 0 ≤ a ∧ a ≤ 5
      · rw [if_pos h1, s_isFloor, fcall_some, if_b01, if_neg (fun z => hn ⟨h1, z⟩)]
      · rw [if_neg h1])
end SR
