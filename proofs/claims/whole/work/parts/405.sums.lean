-- sums over lots, sets as numbers
section SU
def sm (g : Nat → Int) : Nat → Int
  | 0 => 0
  | n + 1 => sm g n + g n
theorem sm_le {g h : Nat → Int} : ∀ n, (∀ i, i < n → g i ≤ h i) → sm g n ≤ sm h n
  | 0, _ => Int.le_refl _
  | n + 1, H => by
    have := sm_le (g := g) (h := h) n (fun i hi => H i (by omega))
    have := H n (by omega)
    unfold sm
    omega
theorem sm_eq {g h : Nat → Int} : ∀ n, (∀ i, i < n → g i = h i) → sm g n = sm h n
  | 0, _ => rfl
  | n + 1, H => by
    unfold sm
    rw [sm_eq n (fun i hi => H i (by omega)), H n (by omega)]
theorem sm_add (g h : Nat → Int) : ∀ n, sm (fun i => g i + h i) n = sm g n + sm h n
  | 0 => rfl
  | n + 1 => by
    unfold sm
    rw [sm_add g h n]
    omega
theorem sm_sub (g h : Nat → Int) : ∀ n, sm (fun i => g i - h i) n = sm g n - sm h n
  | 0 => rfl
  | n + 1 => by
    unfold sm
    rw [sm_sub g h n]
    omega
theorem sm_mul (c : Int) (g : Nat → Int) : ∀ n, sm (fun i => c * g i) n = c * sm g n
  | 0 => (Int.mul_zero c).symm
  | n + 1 => by
    unfold sm
    rw [sm_mul c g n, Int.mul_add]
theorem sm_b {g : Nat → Int} {c : Int} : ∀ n : Nat, (∀ i, i < n → 0 ≤ g i ∧ g i ≤ c) → 0 ≤ sm g n ∧ sm g n ≤ c * (n : Int)
  | 0, _ => by
    show (0 : Int) ≤ 0 ∧ (0 : Int) ≤ c * ((0 : Nat) : Int)
    rw [show ((0 : Nat) : Int) = 0 from rfl, Int.mul_zero]
    omega
  | n + 1, H => by
    have h1 := sm_b (g := g) (c := c) n (fun i hi => H i (by omega))
    have h2 := H n (by omega)
    have e : c * ((n + 1 : Nat) : Int) = c * (n : Int) + c := by
      rw [show ((n + 1 : Nat) : Int) = (n : Int) + 1 by omega, Int.mul_add, Int.mul_one]
    unfold sm
    omega
/-- changed at one place -/
theorem sm_one {g h : Nat → Int} {l : Nat} : ∀ n, l < n → (∀ i, i < n → i ≠ l → h i = g i) → sm h n = sm g n + (h l - g l)
  | 0, hl, _ => by omega
  | n + 1, hl, H => by
    unfold sm
    by_cases e : l = n
    · subst e
      rw [sm_eq l (fun i hi => H i (by omega) (by omega))]
      omega
    · rw [sm_one n (by omega) (fun i hi hne => H i (by omega) hne), H n (by omega) (fun z => e z.symm)]
      omega
/-- a set's sum -/
def ssm (w : Nat → Int) (s n : Nat) : Int := sm (fun l => if s.testBit l = true then w l else 0) n
theorem ssm_s (w : Nat → Int) (s n : Nat) : ssm w s (n + 1) = ssm w s n + (if s.testBit n = true then w n else 0) := rfl
theorem ssm_b {w : Nat → Int} {c : Int} (s n : Nat) (hc : 0 ≤ c) (h : ∀ i, i < n → 0 ≤ w i ∧ w i ≤ c) : 0 ≤ ssm w s n ∧ ssm w s n ≤ c * (n : Int) := sm_b n (fun i hi => by
  have := h i hi
  split <;> omega)
theorem ssm_0 (w : Nat → Int) : ∀ n, ssm w 0 n = 0
  | 0 => rfl
  | n + 1 => by rw [ssm_s, ssm_0 w n, if_neg (by rw [Nat.zero_testBit]; decide)]; rfl
theorem ssm_add (u w : Nat → Int) (s n : Nat) : ssm (fun l => u l + w l) s n = ssm u s n + ssm w s n := by
  unfold ssm
  rw [← sm_add]
  exact sm_eq n (fun i _ => by
    show (if s.testBit i = true then u i + w i else 0) = _
    split <;> omega)
theorem ssm_mul (c : Int) (w : Nat → Int) (s n : Nat) : ssm (fun l => c * w l) s n = c * ssm w s n := by
  unfold ssm
  rw [← sm_mul]
  exact sm_eq n (fun i _ => by
    split
    · rfl
    · rw [Int.mul_zero])
theorem ssm_mod (w : Nat → Int) (s : Nat) : ∀ n k, n ≤ k → ssm w (s % 2 ^ k) n = ssm w s n := fun n k hk => sm_eq n (fun i hi => by
  rw [Nat.testBit_mod_two_pow, decide_eq_true (by omega), Bool.true_and])
theorem ssm_or (w : Nat → Int) {s l n : Nat} (hl : l < n) (h : ¬ s.testBit l = true) : ssm w (s ||| 2 ^ l) n = ssm w s n + w l := by
  have := sm_one (g := fun i => if s.testBit i = true then w i else 0) (h := fun i => if (s ||| 2 ^ l).testBit i = true then w i else 0) n hl (fun i hi hne => by
    show (if (s ||| 2 ^ l).testBit i = true then w i else 0) = (if s.testBit i = true then w i else 0)
    rw [Nat.testBit_or, Nat.testBit_two_pow, decide_eq_false (fun z => hne z.symm), Bool.or_false])
  unfold ssm
  rw [this]
  show _ + ((if (s ||| 2 ^ l).testBit l = true then w l else 0) - (if s.testBit l = true then w l else 0)) = _
  rw [Nat.testBit_or, Nat.testBit_two_pow, decide_eq_true rfl, Bool.or_true, if_pos rfl, if_neg h]
  omega
/-- how many -/
theorem ssm_pc {s n : Nat} (hs : s < 2 ^ n) (hn : n ≤ 31) : ssm (fun _ => 1) s n = ((pcf 31 s : Nat) : Int) := by
  have key : ∀ k, ssm (fun _ => 1) s k = ((cnt (fun i => s.testBit i) k : Nat) : Int) := fun k => by
    induction k with
    | zero => rfl
    | succ k ih =>
      rw [ssm_s, ih, show cnt (fun i => s.testBit i) (k + 1) = cnt (fun i => s.testBit i) k + (if s.testBit k then 1 else 0) from rfl]
      split <;> omega
  obtain ⟨d, hd⟩ : ∃ d, 31 = n + d := ⟨31 - n, by omega⟩
  rw [key, pcf_cnt, hd, cnt_hi _ n d (fun i hi => Nat.testBit_lt_two_pow (Nat.lt_of_lt_of_le hs (Nat.pow_le_pow_right (by decide) hi)))]
/-- the number that a set is -/
theorem ssm_num : ∀ n s : Nat, s < 2 ^ n → ssm (fun l => ((2 ^ l : Nat) : Int)) s n = (s : Int)
  | 0, s, h => by
    rw [Nat.pow_zero] at h
    have : s = 0 := by omega
    subst this
    rfl
  | n + 1, s, h => by
    have h1 := ssm_num n (s % 2 ^ n) (Nat.mod_lt _ (Nat.pow_pos (by decide)))
    rw [ssm_mod _ _ n n (Nat.le_refl _)] at h1
    rw [ssm_s, h1]
    have h2 : s.testBit n = decide (s / 2 ^ n % 2 = 1) := by
      rw [Nat.testBit_eq_decide_div_mod_eq]
    have h3 : s / 2 ^ n < 2 := by
      rw [Nat.div_lt_iff_lt_mul (Nat.pow_pos (by decide))]
      rw [Nat.pow_succ] at h
      omega
    have h4 := Nat.div_add_mod s (2 ^ n)
    have h5 : s / 2 ^ n = 0 ∨ s / 2 ^ n = 1 := by
      generalize s / 2 ^ n = q at h3
      omega
    rcases h5 with h5 | h5
    · rw [h5] at h4 h2
      rw [h2, if_neg (by decide)]
      omega
    · rw [h5] at h4 h2
      rw [h2, if_pos (by decide)]
      omega
end SU
