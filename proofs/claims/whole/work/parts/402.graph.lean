-- floors that reach each other
section GR
variable {e e' : Nat → Nat}
theorem nbr_t (e : Nat → Nat) (s i : Nat) : ∀ k, (nbr e s 0 k).testBit i = true ↔ ∃ j, j < k ∧ s.testBit j = true ∧ (e j).testBit i = true
  | 0 => by
    constructor
    · intro h
      rw [show nbr e s 0 0 = 0 from rfl, Nat.zero_testBit] at h
      exact Bool.noConfusion h
    · rintro ⟨j, hj, _⟩
      omega
  | k + 1 => by
    have ih := nbr_t e s i k
    rw [show nbr e s 0 (k + 1) = nbr e s 0 k ||| (if s.testBit k then e k else 0) from rfl, Nat.testBit_or, Bool.or_eq_true, ih]
    constructor
    · rintro (⟨j, hj, h1, h2⟩ | h)
      · exact ⟨j, by omega, h1, h2⟩
      · by_cases hs : s.testBit k = true
        · rw [if_pos hs] at h
          exact ⟨k, by omega, hs, h⟩
        · rw [if_neg hs, Nat.zero_testBit] at h
          exact Bool.noConfusion h
    · rintro ⟨j, hj, h1, h2⟩
      by_cases hk : j = k
      · subst hk
        right
        rw [if_pos h1]
        exact h2
      · left
        exact ⟨j, by omega, h1, h2⟩
theorem rea_sub (e : Nat → Nat) (s : Nat) (P : Nat → Prop) (h0 : ∀ i, s.testBit i = true → P i) (hc : ∀ i j, i < 6 → P i → (e i).testBit j = true → P j) : ∀ k i, (rea e s k).testBit i = true → P i
  | 0, i, h => h0 i h
  | k + 1, i, h => by
    rw [show rea e s (k + 1) = rea e s k ||| nbr e (rea e s k) 0 6 from rfl, Nat.testBit_or, Bool.or_eq_true] at h
    rcases h with h | h
    · exact rea_sub e s P h0 hc k i h
    · obtain ⟨j, hj, h1, h2⟩ := (nbr_t e _ i 6).mp h
      exact hc j i hj (rea_sub e s P h0 hc k j h1) h2
theorem rea_s (e : Nat → Nat) (s : Nat) : ∀ k i, s.testBit i = true → (rea e s k).testBit i = true
  | 0, _, h => h
  | k + 1, i, h => by
    rw [show rea e s (k + 1) = rea e s k ||| nbr e (rea e s k) 0 6 from rfl, Nat.testBit_or, rea_s e s k i h, Bool.true_or]
theorem pc_or : ∀ a : Nat, a < 64 → ∀ b : Nat, b < 64 → (a ||| b = a ∨ pcf 31 a + 1 ≤ pcf 31 (a ||| b)) := by decide +kernel
theorem pc_1 : ∀ k : Nat, k < 6 → pcf 31 (2 ^ k) = 1 := by decide +kernel
theorem rea_g (he : ∀ i, i < 6 → e i < 64) {f : Nat} (hf : f < 6) : ∀ k, (rea e (2 ^ f) (k + 1) = rea e (2 ^ f) k) ∨ k + 2 ≤ pcf 31 (rea e (2 ^ f) (k + 1))
  | 0 => by
    have p : 2 ^ f < 64 := Nat.pow_lt_pow_right (n := 6) (by decide) hf
    rcases pc_or (2 ^ f) p (nbr e (2 ^ f) 0 6) (nbr_lt (by omega) 6 he) with h | h
    · exact Or.inl h
    · right
      rw [pc_1 f hf] at h
      exact h
  | k + 1 => by
    have p : 2 ^ f < 64 := Nat.pow_lt_pow_right (n := 6) (by decide) hf
    have l := rea_lt he p (k + 1)
    rcases rea_g he hf k with h | h
    · left
      show rea e (2 ^ f) (k + 1) ||| nbr e (rea e (2 ^ f) (k + 1)) 0 6 = _
      rw [h]
      exact h
    · rcases pc_or (rea e (2 ^ f) (k + 1)) l (nbr e (rea e (2 ^ f) (k + 1)) 0 6) (nbr_lt (by omega) 6 he) with h1 | h1
      · exact Or.inl h1
      · right
        have h2 : pcf 31 (rea e (2 ^ f) (k + 1)) + 1 ≤ pcf 31 (rea e (2 ^ f) (k + 1 + 1)) := h1
        omega
theorem rea_fix (he : ∀ i, i < 6 → e i < 64) {f : Nat} (hf : f < 6) : rea e (2 ^ f) 7 = rea e (2 ^ f) 6 := by
  have p : 2 ^ f < 64 := Nat.pow_lt_pow_right (n := 6) (by decide) hf
  rcases rea_g he hf 6 with h | h
  · exact h
  · have := pc64 _ (rea_lt he p 7)
    have h2 : 6 + 2 ≤ pcf 31 (rea e (2 ^ f) 7) := h
    omega
/-- floor i is reached from floor f -/
def Rr (e : Nat → Nat) (f i : Nat) : Prop := (rea e (2 ^ f) 6).testBit i = true
theorem Rr_r (e : Nat → Nat) (f : Nat) : Rr e f f := rea_s e _ 6 f (by rw [Nat.testBit_two_pow]; exact decide_eq_true rfl)
theorem Rr_6 (he : ∀ i, i < 6 → e i < 64) {f i : Nat} (hf : f < 6) (h : Rr e f i) : i < 6 := by
  have p : 2 ^ f < 64 := Nat.pow_lt_pow_right (n := 6) (by decide) hf
  have l := rea_lt he p 6
  rcases Nat.lt_or_ge i 6 with h1 | h1
  · exact h1
  · unfold Rr at h
    have p2 : 2 ^ 6 ≤ 2 ^ i := Nat.pow_le_pow_right (by decide) h1
    rw [Nat.testBit_lt_two_pow (by omega)] at h
    exact Bool.noConfusion h
theorem Rr_e (he : ∀ i, i < 6 → e i < 64) {f i j : Nat} (hf : f < 6) (h : Rr e f i) (hj : (e i).testBit j = true) : Rr e f j := by
  have hi := Rr_6 he hf h
  unfold Rr
  rw [← rea_fix he hf]
  show (rea e (2 ^ f) 6 ||| nbr e (rea e (2 ^ f) 6) 0 6).testBit j = true
  rw [Nat.testBit_or, (nbr_t e _ j 6).mpr ⟨i, hi, h, hj⟩, Bool.or_true]
theorem Rr_P {P : Nat → Prop} {f : Nat} (h0 : P f) (hc : ∀ i j, i < 6 → P i → (e i).testBit j = true → P j) {i : Nat} (h : Rr e f i) : P i := by
  refine rea_sub e _ P (fun i hi => ?_) hc 6 i h
  rw [Nat.testBit_two_pow] at hi
  rw [← of_decide_eq_true hi]
  exact h0
theorem Rr_t (he : ∀ i, i < 6 → e i < 64) {f i j : Nat} (hf : f < 6) (h : Rr e f i) (h2 : Rr e i j) : Rr e f j := Rr_P (P := fun j => Rr e f j) h (fun a b _ ha hb => Rr_e he hf ha hb) h2
theorem Rr_s (he : ∀ i, i < 6 → e i < 64) (hs : ∀ i j, i < 6 → j < 6 → (e i).testBit j = (e j).testBit i) {f i : Nat} (hf : f < 6) (h : Rr e f i) : Rr e i f := by
  have := Rr_P (e := e) (P := fun j => j < 6 ∧ Rr e j f) (f := f) ⟨hf, Rr_r e f⟩ (fun a b ha hP hb => by
    have hb6 : b < 6 := by
      rcases Nat.lt_or_ge b 6 with h1 | h1
      · exact h1
      · have p2 : 2 ^ 6 ≤ 2 ^ b := Nat.pow_le_pow_right (by decide) h1
        have := he a ha
        rw [Nat.testBit_lt_two_pow (by omega)] at hb
        exact Bool.noConfusion hb
    refine ⟨hb6, ?_⟩
    have h1 : Rr e b a := Rr_e he hb6 (Rr_r e b) (by rw [← hs a b ha hb6]; exact hb)
    exact Rr_t he hb6 h1 hP.2) h
  exact this.2
theorem pts_t (he : ∀ i, i < 6 → e i < 64) (i : Nat) : ∀ k, k ≤ 6 → ((pts e k).1.testBit i = true ↔ ∃ r, r < k ∧ Rr e r i)
  | 0, _ => by
    constructor
    · intro h
      rw [show (pts e 0).1 = 0 from rfl, Nat.zero_testBit] at h
      exact Bool.noConfusion h
    · rintro ⟨r, hr, _⟩
      omega
  | k + 1, hk => by
    have ih := fun j => pts_t he j k (by omega)
    have pe : pts e (k + 1) = if (pts e k).1.testBit k = true then pts e k else ((pts e k).1 ||| rea e (2 ^ k) 6, (pts e k).2 + 1) := rfl
    rw [pe]
    by_cases h : (pts e k).1.testBit k = true
    · rw [if_pos h, ih i]
      obtain ⟨q, hq, hq2⟩ := (ih k).mp h
      constructor
      · rintro ⟨r, hr, h1⟩
        exact ⟨r, by omega, h1⟩
      · rintro ⟨r, hr, h1⟩
        by_cases hrk : r = k
        · subst hrk
          exact ⟨q, hq, Rr_t he (by omega) hq2 h1⟩
        · exact ⟨r, by omega, h1⟩
    · rw [if_neg h]
      show ((pts e k).1 ||| rea e (2 ^ k) 6).testBit i = true ↔ _
      rw [Nat.testBit_or, Bool.or_eq_true, ih i]
      constructor
      · rintro (⟨r, hr, h1⟩ | h1)
        · exact ⟨r, by omega, h1⟩
        · exact ⟨k, by omega, h1⟩
      · rintro ⟨r, hr, h1⟩
        by_cases hrk : r = k
        · subst hrk
          exact Or.inr h1
        · exact Or.inl ⟨r, by omega, h1⟩
theorem pts_c (he : ∀ i, i < 6 → e i < 64) (he' : ∀ i, i < 6 → e' i < 64) (hsub : ∀ r i, r < 6 → Rr e' r i → Rr e r i) : ∀ k, k ≤ 6 → (pts e k).2 ≤ (pts e' k).2 ∧ ((pts e' k).2 ≤ (pts e k).2 → ∀ i, i < k → (∃ r, r < i ∧ Rr e r i) → ∃ r, r < i ∧ Rr e' r i)
  | 0, _ => ⟨Int.le_refl _, fun _ i hi => by omega⟩
  | k + 1, hk => by
    obtain ⟨h1, h2⟩ := pts_c he he' hsub k (by omega)
    have t1 := pts_t he k k (by omega)
    have t2 := pts_t he' k k (by omega)
    have pe : pts e (k + 1) = if (pts e k).1.testBit k = true then pts e k else ((pts e k).1 ||| rea e (2 ^ k) 6, (pts e k).2 + 1) := rfl
    have pe' : pts e' (k + 1) = if (pts e' k).1.testBit k = true then pts e' k else ((pts e' k).1 ||| rea e' (2 ^ k) 6, (pts e' k).2 + 1) := rfl
    rw [pe, pe']
    by_cases c1 : (pts e k).1.testBit k = true
    · rw [if_pos c1]
      by_cases c2 : (pts e' k).1.testBit k = true
      · rw [if_pos c2]
        refine ⟨h1, fun hle i hi hr => ?_⟩
        by_cases hik : i = k
        · subst hik
          exact t2.mp c2
        · exact h2 hle i (by omega) hr
      · rw [if_neg c2]
        show (pts e k).2 ≤ (pts e' k).2 + 1 ∧ ((pts e' k).2 + 1 ≤ (pts e k).2 → _)
        exact ⟨by omega, fun hle => by omega⟩
    · rw [if_neg c1]
      have c2 : ¬ (pts e' k).1.testBit k = true := fun z => by
        obtain ⟨r, hr, h3⟩ := t2.mp z
        exact c1 (t1.mpr ⟨r, hr, hsub r k (by omega) h3⟩)
      rw [if_neg c2]
      show (pts e k).2 + 1 ≤ (pts e' k).2 + 1 ∧ ((pts e' k).2 + 1 ≤ (pts e k).2 + 1 → _)
      refine ⟨by omega, fun hle i hi hr => ?_⟩
      by_cases hik : i = k
      · subst hik
        exact absurd (t1.mpr hr) c1
      · exact h2 (by omega) i (by omega) hr
theorem pts_all (he : ∀ i, i < 6 → e i < 64) (he' : ∀ i, i < 6 → e' i < 64) (hs : ∀ i j, i < 6 → j < 6 → (e i).testBit j = (e j).testBit i) (hs' : ∀ i j, i < 6 → j < 6 → (e' i).testBit j = (e' j).testBit i) (hsub : ∀ r i, r < 6 → Rr e' r i → Rr e r i) (h : ∀ i, i < 6 → (∃ r, r < i ∧ Rr e r i) → ∃ r, r < i ∧ Rr e' r i) : ∀ n a b, a < n → b < n → n ≤ 6 → Rr e a b → Rr e' a b
  | 0, a, b, ha, _, _, _ => by omega
  | n + 1, a, b, ha, hb, hn, hR => by
    have ih := pts_all he he' hs hs' hsub h n
    have key : ∀ a, a < n → Rr e a n → Rr e' a n := fun a ha hR => by
      obtain ⟨r, hr, h1⟩ := h n (by omega) ⟨a, ha, hR⟩
      have h2 : Rr e a r := Rr_t he (by omega) hR (Rr_s he hs (by omega) (hsub r n (by omega) h1))
      exact Rr_t he' (by omega) (ih a r ha hr (by omega) h2) h1
    by_cases hab : a = b
    · subst hab
      exact Rr_r e' a
    · by_cases hbn : b = n
      · subst hbn
        exact key a (by omega) hR
      · by_cases han : a = n
        · subst han
          exact Rr_s he' hs' (by omega) (key b (by omega) (Rr_s he hs (by omega) hR))
        · exact ih a b (by omega) (by omega) (by omega) hR
end GR
