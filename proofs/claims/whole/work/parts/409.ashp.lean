-- ashes: how many sets, what all have, what some have
section AP
/-- how many below n do P -/
noncomputable def csm (P : Nat → Prop) (n : Nat) : Int := sm (fun s => bb (P s)) n
theorem csm_b (P : Nat → Prop) (n : Nat) : 0 ≤ csm P n ∧ csm P n ≤ (n : Int) := by
  have := sm_b (c := 1) (g := fun s => bb (P s)) n (fun i _ => by
    show 0 ≤ bb (P i) ∧ bb (P i) ≤ 1
    by_cases h : P i
    · rw [bb_t h]; omega
    · rw [bb_f h]; omega)
  unfold csm
  omega
theorem csm_s (P : Nat → Prop) (n : Nat) : csm P (n + 1) = csm P n + bb (P n) := rfl
theorem csm_0 {P : Nat → Prop} : ∀ n, (∀ s, s < n → ¬ P s) → csm P n = 0
  | 0, _ => rfl
  | n + 1, h => by rw [csm_s, csm_0 n (fun s hs => h s (by omega)), bb_f (h n (by omega))]; rfl
theorem csm_e {P Q : Nat → Prop} : ∀ n, (∀ s, s < n → (P s ↔ Q s)) → csm P n = csm Q n
  | 0, _ => rfl
  | n + 1, h => by rw [csm_s, csm_s, csm_e n (fun s hs => h s (by omega)), show P n = Q n from propext (h n (by omega))]
theorem csm_or {P Q R : Nat → Prop} : ∀ n, (∀ s, s < n → (R s ↔ (P s ∨ Q s)) ∧ ¬ (P s ∧ Q s)) → csm R n = csm P n + csm Q n
  | 0, _ => rfl
  | n + 1, h => by
    obtain ⟨h1, h2⟩ := h n (by omega)
    rw [csm_s, csm_s, csm_s, csm_or n (fun s hs => h s (by omega))]
    by_cases p : P n
    · rw [bb_t p, bb_t (h1.mpr (Or.inl p)), bb_f (fun q => h2 ⟨p, q⟩)]
      omega
    · by_cases q : Q n
      · rw [bb_f p, bb_t q, bb_t (h1.mpr (Or.inr q))]
        omega
      · rw [bb_f p, bb_f q, bb_f (fun z => (h1.mp z).elim p q)]
        omega
theorem csm_one {P : Nat → Prop} {m : Nat} : ∀ n, m < n → (∀ s, s < n → (P s ↔ s = m)) → csm P n = 1
  | 0, hm, _ => by omega
  | n + 1, hm, h => by
    rw [csm_s]
    by_cases e : m = n
    · subst e
      rw [csm_0 m (fun s hs z => by have := (h s (by omega)).mp z; omega), bb_t ((h m (by omega)).mpr rfl)]
      rfl
    · rw [csm_one n (by omega) (fun s hs => h s (by omega)), bb_f (fun z => e ((h n (by omega)).mp z).symm)]
      rfl
theorem csm_hi {P : Nat → Prop} {m : Nat} : ∀ d, (∀ s, m ≤ s → ¬ P s) → csm P (m + d) = csm P m
  | 0, _ => rfl
  | d + 1, h => by
    show csm P (m + d) + bb (P (m + d)) = _
    rw [csm_hi d h, bb_f (h _ (by omega))]
    omega
theorem mod_s (s l : Nat) : s % 2 ^ (l + 1) = s % 2 ^ l + (if s.testBit l = true then 2 ^ l else 0) := by
  rw [Nat.testBit_eq_decide_div_mod_eq, Nat.pow_succ, Nat.mod_mul]
  congr 1
  by_cases c : s / 2 ^ l % 2 = 1
  · rw [if_pos (decide_eq_true c), c, Nat.mul_one]
  · rw [if_neg (fun z => c (of_decide_eq_true z)), show s / 2 ^ l % 2 = 0 by omega, Nat.mul_zero]
theorem ssm_mono {w : Nat → Int} (s : Nat) {l : Nat} : ∀ d, (∀ i, i < l + d → 0 ≤ w i) → ssm w s l ≤ ssm w s (l + d)
  | 0, _ => Int.le_refl _
  | d + 1, h => by
    have h1 := ssm_mono (w := w) s (l := l) d (fun i hi => h i (by omega))
    have h2 := h (l + d) (by omega)
    show _ ≤ ssm w s (l + d) + (if s.testBit (l + d) = true then w (l + d) else 0)
    split <;> omega
/-- the sets that weigh W, M of them, out of u -/
def PW (wt : Nat → Int) (u N : Nat) (W M : Int) (s : Nat) : Prop := (∀ i, s.testBit i = true → u.testBit i = true) ∧ ssm wt s N = W ∧ ssm (fun _ => 1) s N = M
def QW (wt : Nat → Int) (u N : Nat) (W M : Int) (l t s : Nat) : Prop := s % 2 ^ l = t ∧ PW wt u N W M s
theorem QW_lo {wt : Nat → Int} {u N : Nat} {W M : Int} {l t s : Nat} (hl : l ≤ N) (hw : ∀ i, i < N → 0 ≤ wt i) (h : QW wt u N W M l t s) : ssm wt t l ≤ W ∧ ssm (fun _ => 1) t l ≤ M := by
  obtain ⟨h1, h2, h3, h4⟩ := h
  obtain ⟨d, rfl⟩ : ∃ d, N = l + d := ⟨N - l, by omega⟩
  rw [← h1, ssm_mod _ _ l l (Nat.le_refl _), ssm_mod _ _ l l (Nat.le_refl _)]
  have e1 := ssm_mono (w := wt) s (l := l) d hw
  have e2 := ssm_mono (w := fun _ => 1) s (l := l) d (fun _ _ => by omega)
  omega
theorem QW_s {wt : Nat → Int} {u N : Nat} {W M : Int} {l t s : Nat} (ht : t < 2 ^ l) : (QW wt u N W M l t s ↔ (QW wt u N W M (l + 1) t s ∨ QW wt u N W M (l + 1) (t ||| 2 ^ l) s)) ∧ ¬ (QW wt u N W M (l + 1) t s ∧ QW wt u N W M (l + 1) (t ||| 2 ^ l) s) ∧ (QW wt u N W M (l + 1) (t ||| 2 ^ l) s → u.testBit l = true) := by
  have p : 0 < 2 ^ l := Nat.pow_pos (by decide)
  have lt : s % 2 ^ l < 2 ^ l := Nat.mod_lt _ p
  unfold QW
  rw [mod_s, Nat.or_two_pow_eq_add_of_lt ht]
  by_cases c : s.testBit l = true
  · rw [if_pos c]
    refine ⟨⟨fun z => Or.inr ⟨by omega, z.2⟩, fun z => ?_⟩, fun z => ?_, fun z => z.2.1 l c⟩
    · rcases z with z | z
      · have := z.1; omega
      · exact ⟨by have := z.1; omega, z.2⟩
    · have := z.1.1; have := z.2.1; omega
  · rw [if_neg c]
    refine ⟨⟨fun z => Or.inl ⟨by omega, z.2⟩, fun z => ?_⟩, fun z => ?_, fun z => ?_⟩
    · rcases z with z | z
      · exact ⟨by have := z.1; omega, z.2⟩
      · have := z.1; omega
    · have := z.1.1; have := z.2.1; omega
    · have := z.1; omega
theorem ssm_top {w : Nat → Int} {t l : Nat} (ht : t < 2 ^ l) : ssm w t (l + 1) = ssm w t l ∧ ssm w (t ||| 2 ^ l) (l + 1) = ssm w t l + w l := by
  have b : ¬ t.testBit l = true := by rw [Nat.testBit_lt_two_pow ht]; decide
  have e : ssm w t (l + 1) = ssm w t l := by rw [ssm_s, if_neg b, Int.add_zero]
  exact ⟨e, by rw [ssm_or w (by omega) b, e]⟩
end AP
