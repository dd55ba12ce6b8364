-- a stair that is the one way
section BG
variable {e e' : Nat → Nat} {f g : Nat}
theorem ano_e : ∀ v : Nat, v < 64 → ∀ s : Nat, s < 64 → ano v s = v &&& (63 - s) := by decide +kernel
theorem not_t : ∀ s : Nat, s < 64 → ∀ i : Nat, i < 6 → (63 - s).testBit i = !s.testBit i := by decide +kernel
theorem bit6 {v i : Nat} (hv : v < 64) (h : v.testBit i = true) : i < 6 := by
  rcases Nat.lt_or_ge i 6 with h1 | h1
  · exact h1
  · have p2 : 2 ^ 6 ≤ 2 ^ i := Nat.pow_le_pow_right (by decide) h1
    rw [Nat.testBit_lt_two_pow (by omega)] at h
    exact Bool.noConfusion h
theorem ano_t {v s : Nat} (hv : v < 64) (hs : s < 64) (i : Nat) : (ano v s).testBit i = true ↔ v.testBit i = true ∧ ¬ s.testBit i = true := by
  rw [ano_e v hv s hs, Nat.testBit_and, Bool.and_eq_true]
  constructor
  · rintro ⟨h1, h2⟩
    rw [not_t s hs i (bit6 hv h1)] at h2
    exact ⟨h1, fun z => by rw [z] at h2; exact Bool.noConfusion h2⟩
  · rintro ⟨h1, h2⟩
    refine ⟨h1, ?_⟩
    rw [not_t s hs i (bit6 hv h1), Bool.eq_false_iff.mpr h2]
    rfl
theorem pc_0 : ∀ v : Nat, v < 64 → (v = 0 ∨ 1 ≤ pcf 31 v) := by decide +kernel
theorem pc_2' : ∀ v : Nat, v < 64 → ∀ i : Nat, i < 6 → ∀ j : Nat, j < 6 → (i = j ∨ 2 ≤ pcf 31 v ∨ ¬ (v.testBit i = true ∧ v.testBit j = true)) := by decide +kernel
theorem pc_2 (v : Nat) (hv : v < 64) (i : Nat) (hi : i < 6) (j : Nat) (hj : j < 6) (h1 : v.testBit i = true) (h2 : v.testBit j = true) : i = j ∨ 2 ≤ pcf 31 v := by
  rcases pc_2' v hv i hi j hj with h | h | h
  · exact Or.inl h
  · exact Or.inr h
  · exact absurd ⟨h1, h2⟩ h
theorem pc_u : ∀ v : Nat, v < 64 → ∀ g : Nat, g < 6 → (∀ j : Nat, j < 6 → v.testBit j = true → j = g) → pcf 31 v ≤ 1 := by decide +kernel
theorem pc_p {v i : Nat} (hv : v < 64) (h : v.testBit i = true) : 1 ≤ pcf 31 v := by
  rcases pc_0 v hv with h1 | h1
  · subst h1
    rw [Nat.zero_testBit] at h
    exact Bool.noConfusion h
  · exact h1
theorem soo_1 (e : Nat → Nat) (s : Nat) {i : Nat} (hi : s.testBit i = true) : ∀ k, i < k → ((pcf 31 (ano (e i) s) : Nat) : Int) ≤ soo e s k ∧ (∀ j, j < k → j ≠ i → s.testBit j = true → ((pcf 31 (ano (e i) s) : Nat) : Int) + ((pcf 31 (ano (e j) s) : Nat) : Int) ≤ soo e s k)
  | 0, h => by omega
  | k + 1, h => by
    have z : ∀ k, 0 ≤ soo e s k := fun k => by
      induction k with
      | zero => exact Int.le_refl _
      | succ k ih =>
        show 0 ≤ soo e s k + _
        split <;> omega
    have ee : soo e s (k + 1) = soo e s k + (if s.testBit k = true then ((pcf 31 (ano (e k) s) : Nat) : Int) else 0) := rfl
    have zk := z k
    by_cases hik : i = k
    · subst hik
      rw [ee, if_pos hi]
      refine ⟨by omega, fun j hj hne hs => ?_⟩
      have := (soo_1 e s hs i (by omega)).1
      omega
    · obtain ⟨h1, h2⟩ := soo_1 e s hi k (by omega)
      rw [ee]
      constructor
      · split <;> omega
      · intro j hj hne hs
        by_cases hjk : j = k
        · subst hjk
          rw [if_pos hs]
          omega
        · have := h2 j (by omega) hne hs
          split <;> omega
theorem soo_u (e : Nat → Nat) (s f : Nat) (h : ∀ i, i < 6 → i ≠ f → s.testBit i = true → pcf 31 (ano (e i) s) = 0) : ∀ k, k ≤ 6 → soo e s k ≤ if f < k then ((pcf 31 (ano (e f) s) : Nat) : Int) else 0
  | 0, _ => by
    show (0 : Int) ≤ _
    split <;> omega
  | k + 1, hk => by
    have ih := soo_u e s f h k (by omega)
    have ee : soo e s (k + 1) = soo e s k + (if s.testBit k = true then ((pcf 31 (ano (e k) s) : Nat) : Int) else 0) := rfl
    rw [ee]
    by_cases hfk : f = k
    · subst hfk
      rw [if_neg (by omega)] at ih
      rw [if_pos (show f < f + 1 by omega)]
      split <;> omega
    · have : (if s.testBit k = true then ((pcf 31 (ano (e k) s) : Nat) : Int) else 0) = 0 := by
        split
        · rename_i hs
          rw [h k (by omega) (fun z => hfk z.symm) hs]
          rfl
        · rfl
      rw [this]
      by_cases hlt : f < k
      · rw [if_pos hlt] at ih
        rw [if_pos (by omega)]
        omega
      · rw [if_neg hlt] at ih
        rw [if_neg (by omega)]
        omega
theorem mnc_le (e : Nat → Nat) (f g : Nat) (m : Int) {s : Nat} (h1 : s.testBit f = true) (h2 : ¬ s.testBit g = true) : ∀ k, s < k → mnc e f g m k ≤ soo e s 6
  | 0, h => by omega
  | k + 1, h => by
    show (if k.testBit f = true ∧ ¬ k.testBit g = true then (if mnc e f g m k ≤ soo e k 6 then mnc e f g m k else soo e k 6) else mnc e f g m k) ≤ _
    by_cases hk : s = k
    · subst hk
      rw [if_pos ⟨h1, h2⟩]
      split <;> omega
    · have := mnc_le e f g m h1 h2 k (by omega)
      split
      · split <;> omega
      · exact this
theorem mnc_ex (e : Nat → Nat) (f g : Nat) (m : Int) : ∀ k, mnc e f g m k = m ∨ ∃ s, s < k ∧ s.testBit f = true ∧ ¬ s.testBit g = true ∧ mnc e f g m k = soo e s 6
  | 0 => Or.inl rfl
  | k + 1 => by
    have ih := mnc_ex e f g m k
    show (if k.testBit f = true ∧ ¬ k.testBit g = true then (if mnc e f g m k ≤ soo e k 6 then mnc e f g m k else soo e k 6) else mnc e f g m k) = m ∨ ∃ s, s < k + 1 ∧ s.testBit f = true ∧ ¬ s.testBit g = true ∧ (if k.testBit f = true ∧ ¬ k.testBit g = true then (if mnc e f g m k ≤ soo e k 6 then mnc e f g m k else soo e k 6) else mnc e f g m k) = soo e s 6
    have up : (mnc e f g m k = m ∨ ∃ s, s < k + 1 ∧ s.testBit f = true ∧ ¬ s.testBit g = true ∧ mnc e f g m k = soo e s 6) := by
      rcases ih with h | ⟨s, h1, h2, h3, h4⟩
      · exact Or.inl h
      · exact Or.inr ⟨s, by omega, h2, h3, h4⟩
    split
    · rename_i c
      split
      · exact up
      · exact Or.inr ⟨k, by omega, c.1, c.2, rfl⟩
    · exact up
theorem mnc_1 (he : ∀ i, i < 6 → e i < 64) (he' : ∀ i, i < 6 → e' i < 64) (hf : f < 6) (hg : g < 6) (hne : f ≠ g) (hj : (e f).testBit g = true) (hc : ∀ i j, i < 6 → ((e' i).testBit j = true ↔ ((e i).testBit j = true ∧ ¬ ((i = f ∧ j = g) ∨ (i = g ∧ j = f))))) : mnc e f g 36 64 = 1 ↔ ¬ Rr e' f g := by
  have p : 2 ^ f < 64 := Nat.pow_lt_pow_right (n := 6) (by decide) hf
  have lo : ∀ s, s < 64 → s.testBit f = true → ¬ s.testBit g = true → 1 ≤ pcf 31 (ano (e f) s) := fun s hs h1 h2 => pc_p (ano_b (he f hf)).1 ((ano_t (he f hf) hs g).mpr ⟨hj, h2⟩)
  have ge1 : 1 ≤ mnc e f g 36 64 := by
    rcases mnc_ex e f g 36 64 with h | ⟨s, h1, h2, h3, h4⟩
    · omega
    · have h5 := lo s h1 h2 h3
      have h6 := (soo_1 e s h2 6 hf).1
      omega
  constructor
  · intro h1 hR
    rcases mnc_ex e f g 36 64 with h | ⟨s, hs, h2, h3, h4⟩
    · omega
    · have h5 := lo s hs h2 h3
      obtain ⟨h6, h7⟩ := soo_1 e s h2 6 hf
      refine h3 (Rr_P (e := e') (P := fun j => s.testBit j = true) h2 (fun i j hi hP hb => ?_) hR)
      refine Decidable.byContradiction (fun hn => ?_)
      obtain ⟨b1, b2⟩ := (hc i j hi).mp hb
      have a1 := (ano_t (he i hi) hs j).mpr ⟨b1, hn⟩
      have a2 := pc_p (ano_b (s := s) (he i hi)).1 a1
      by_cases hif : i = f
      · subst hif
        have a3 := (ano_t (he i hi) hs g).mpr ⟨hj, h3⟩
        rcases pc_2 _ (ano_b (s := s) (he i hi)).1 j (bit6 (he i hi) b1) g hg a1 a3 with h8 | h8
        · exact b2 (Or.inl ⟨rfl, h8⟩)
        · omega
      · have := h7 i hi hif hP
        omega
  · intro hR
    have l := rea_lt he' p 6
    have le := mnc_le e f g 36 (s := rea e' (2 ^ f) 6) (Rr_r e' f) hR 64 l
    have su := soo_u e (rea e' (2 ^ f) 6) f (fun i hi hne2 hs => by
      rcases pc_0 _ (ano_b (s := rea e' (2 ^ f) 6) (he i hi)).1 with h | h
      · rw [h]
        rfl
      · exfalso
        have nz : ∃ j, (ano (e i) (rea e' (2 ^ f) 6)).testBit j = true := by
          refine Classical.byContradiction (fun z => ?_)
          have : ano (e i) (rea e' (2 ^ f) 6) = 0 := Nat.eq_of_testBit_eq (fun j => by
            rw [Nat.zero_testBit]
            exact Bool.eq_false_iff.mpr (fun q => z ⟨j, q⟩))
          rw [this] at h
          exact absurd h (by decide)
        obtain ⟨j, h2⟩ := nz
        obtain ⟨h3, h4⟩ := (ano_t (he i hi) l j).mp h2
        refine h4 (Rr_e he' hf hs ((hc i j hi).mpr ⟨h3, fun q => ?_⟩))
        rcases q with q | q
        · exact hne2 q.1
        · rw [q.1] at hs
          exact hR hs) 6 (by omega)
    rw [if_pos hf] at su
    have u := pc_u _ (ano_b (s := rea e' (2 ^ f) 6) (he f hf)).1 g hg (fun j hj6 h2 => by
      obtain ⟨h3, h4⟩ := (ano_t (he f hf) l j).mp h2
      refine Decidable.byContradiction (fun hn => ?_)
      refine h4 (Rr_e he' hf (Rr_r e' f) ((hc f j hf).mpr ⟨h3, fun q => ?_⟩))
      rcases q with q | q
      · exact hn q.2
      · exact hne q.1)
    omega
theorem pts_1 (he : ∀ i, i < 6 → e i < 64) (he' : ∀ i, i < 6 → e' i < 64) (hs : ∀ i j, i < 6 → j < 6 → (e i).testBit j = (e j).testBit i) (hs' : ∀ i j, i < 6 → j < 6 → (e' i).testBit j = (e' j).testBit i) (hf : f < 6) (hg : g < 6) (hj : (e f).testBit g = true) (hc : ∀ i j, i < 6 → ((e' i).testBit j = true ↔ ((e i).testBit j = true ∧ ¬ ((i = f ∧ j = g) ∨ (i = g ∧ j = f))))) : (pts e' 6).2 ≤ (pts e 6).2 ↔ Rr e' f g := by
  have hsub : ∀ r i, r < 6 → Rr e' r i → Rr e r i := fun r i hr h => Rr_P (e := e') (P := fun j => Rr e r j) (Rr_r e r) (fun a b ha hP hb => Rr_e he hr hP ((hc a b ha).mp hb).1) h
  have h6 := pts_c he he' hsub 6 (by omega)
  constructor
  · intro h
    exact pts_all he he' hs hs' hsub (h6.2 h) 6 f g hf hg (by omega) (Rr_e he hf (Rr_r e f) hj)
  · intro h
    have hsub2 : ∀ r i, r < 6 → Rr e r i → Rr e' r i := fun r i hr h1 => Rr_P (e := e) (P := fun j => Rr e' r j) (Rr_r e' r) (fun a b ha hP hb => by
      by_cases c1 : a = f ∧ b = g
      · rw [c1.2]
        rw [c1.1] at hP
        exact Rr_t he' hr hP h
      · by_cases c2 : a = g ∧ b = f
        · rw [c2.2]
          rw [c2.1] at hP
          exact Rr_t he' hr hP (Rr_s he' hs' hf h)
        · exact Rr_e he' hr hP ((hc a b ha).mpr ⟨hb, fun q => q.elim c1 c2⟩)) h1
    exact (pts_c he' he hsub2 6 (by omega)).1
end BG
