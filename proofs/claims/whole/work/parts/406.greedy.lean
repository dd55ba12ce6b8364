-- what can be kept: the dearest first is best
section GY
variable {n : Nat} {d w : Nat → Int} {ok : Nat → Prop} {k : Int}
/-- how many of a set are due by week t -/
def due (d : Nat → Int) (t : Int) (s n : Nat) : Int := sm (fun l => if s.testBit l = true ∧ d l ≤ t then 1 else 0) n
def okK (d : Nat → Int) (k : Int) (s n T : Nat) : Prop := ∀ t : Nat, t < T → due d ((t : Int) + 1) s n ≤ k * ((t : Int) + 1)
theorem due_or (d : Nat → Int) (t : Int) {s l n : Nat} (hl : l < n) (h : ¬ s.testBit l = true) : due d t (s ||| 2 ^ l) n = due d t s n + (if d l ≤ t then 1 else 0) := by
  have := sm_one (g := fun i => if s.testBit i = true ∧ d i ≤ t then (1 : Int) else 0) (h := fun i => if (s ||| 2 ^ l).testBit i = true ∧ d i ≤ t then (1 : Int) else 0) n hl (fun i hi hne => by
    show (if (s ||| 2 ^ l).testBit i = true ∧ d i ≤ t then (1 : Int) else 0) = (if s.testBit i = true ∧ d i ≤ t then (1 : Int) else 0)
    rw [Nat.testBit_or, Nat.testBit_two_pow, decide_eq_false (fun z => hne z.symm), Bool.or_false])
  unfold due
  rw [this]
  show _ + ((if (s ||| 2 ^ l).testBit l = true ∧ d l ≤ t then (1 : Int) else 0) - (if s.testBit l = true ∧ d l ≤ t then (1 : Int) else 0)) = _
  have hb : (s ||| 2 ^ l).testBit l = true := by rw [Nat.testBit_or, Nat.testBit_two_pow, decide_eq_true rfl, Bool.or_true]
  rw [if_neg (show ¬ (s.testBit l = true ∧ d l ≤ t) from fun z => h z.1)]
  by_cases c : d l ≤ t
  · rw [if_pos ⟨hb, c⟩, if_pos c]
    omega
  · rw [if_neg (fun z => c z.2), if_neg c]
    omega
/-- the state of the greedy choice: s chosen, t tried -/
def GI (n : Nat) (d v : Nat → Int) (ok : Nat → Prop) (k : Int) (s t : Nat) : Prop :=
  (∀ l, s.testBit l = true → t.testBit l = true) ∧ (∀ l, t.testBit l = true → l < n ∧ ok l ∧ 0 ≤ v l) ∧ okK d k s n 6
  ∧ (∃ T : Nat, T ≤ 6 ∧ due d (T : Int) s n = k * (T : Int) ∧ ∀ l, t.testBit l = true → ¬ s.testBit l = true → d l ≤ (T : Int))
  ∧ (∀ l m, t.testBit l = true → ¬ t.testBit m = true → m < n → ok m → 0 ≤ v m → v m ≤ v l)
  ∧ ∀ S : Nat, (∀ l, S.testBit l = true → l < n ∧ ok l) → okK d k S n 6 → ∀ c : Int, 0 ≤ c → (∀ l, t.testBit l = true → c ≤ v l) → ssm v (S &&& t) n + c * (ssm (fun _ => 1) s n - ssm (fun _ => 1) (S &&& t) n) ≤ ssm v s n
theorem GI_rank {v : Nat → Int} {s t T S : Nat} (hT : T ≤ 6) (hd : due d (T : Int) s n = k * (T : Int)) (hr : ∀ l, t.testBit l = true → ¬ s.testBit l = true → d l ≤ (T : Int)) (d1 : ∀ l, ok l → 1 ≤ d l) (hS : ∀ l, S.testBit l = true → l < n ∧ ok l) (hk : okK d k S n 6) : ssm (fun _ => 1) (S &&& t) n ≤ ssm (fun _ => 1) s n := by
  have h1 : due d (T : Int) S n ≤ k * (T : Int) := by
    rcases Nat.eq_zero_or_pos T with h0 | h0
    · subst h0
      have : due d ((0 : Nat) : Int) S n ≤ sm (fun _ => 0) n := sm_le n (fun l _ => by
        show (if S.testBit l = true ∧ d l ≤ ((0 : Nat) : Int) then (1 : Int) else 0) ≤ 0
        rw [if_neg (fun z => by have := d1 l (hS l z.1).2; omega)]
        exact Int.le_refl _)
      have z : ∀ n, sm (fun _ => 0) n = 0 := fun n => by
        induction n with
        | zero => rfl
        | succ n ih => unfold sm; rw [ih]; rfl
      rw [z] at this
      rw [show ((0 : Nat) : Int) = 0 from rfl, Int.mul_zero]
      exact this
    · have := hk (T - 1) (by omega)
      rw [show ((T - 1 : Nat) : Int) + 1 = (T : Int) by omega] at this
      exact this
  have h2 : ssm (fun _ => 1) (S &&& t) n ≤ due d (T : Int) S n + (ssm (fun _ => 1) s n - due d (T : Int) s n) := by
    unfold ssm due
    rw [← sm_sub, ← sm_add]
    refine sm_le n (fun l _ => ?_)
    show (if (S &&& t).testBit l = true then (1 : Int) else 0) ≤ (if S.testBit l = true ∧ d l ≤ (T : Int) then (1 : Int) else 0) + ((if s.testBit l = true then (1 : Int) else 0) - (if s.testBit l = true ∧ d l ≤ (T : Int) then (1 : Int) else 0))
    rw [Nat.testBit_and]
    have hl := hr l
    by_cases a1 : S.testBit l = true <;> by_cases a2 : t.testBit l = true <;> by_cases a3 : s.testBit l = true <;> by_cases a4 : d l ≤ (T : Int) <;> simp [a1, a2, a3, a4]
    exact a4 (hl a2 a3)
  omega
theorem okK_0 (hk : 0 ≤ k) : okK d k 0 n 6 := fun t _ => by
  have : due d ((t : Int) + 1) 0 n ≤ sm (fun _ => 0) n := sm_le n (fun l _ => by
    show (if (0 : Nat).testBit l = true ∧ _ then (1 : Int) else 0) ≤ 0
    rw [if_neg (fun z => by rw [Nat.zero_testBit] at z; exact Bool.noConfusion z.1)]
    exact Int.le_refl _)
  have z : ∀ n, sm (fun _ => 0) n = 0 := fun n => by
    induction n with
    | zero => rfl
    | succ n ih => unfold sm; rw [ih]; rfl
  rw [z] at this
  have := Int.mul_nonneg hk (show (0 : Int) ≤ (t : Int) + 1 by omega)
  omega
theorem nz_t {l : Nat} (h : (0 : Nat).testBit l = true) : False := by
  rw [Nat.zero_testBit] at h
  exact Bool.noConfusion h
theorem GI_0 {v : Nat → Int} (hk : 0 ≤ k) (d1 : ∀ l, ok l → 1 ≤ d l) : GI n d v ok k 0 0 := by
  refine ⟨fun l h => h, fun l h => (nz_t h).elim, okK_0 hk, ⟨0, by omega, ?_, fun l h => (nz_t h).elim⟩, fun l m h => (nz_t h).elim, fun S hS hK c hc _ => ?_⟩
  · have z : ∀ n, due d ((0 : Nat) : Int) 0 n = 0 := fun n => by
      induction n with
      | zero => rfl
      | succ n ih =>
        show due d ((0 : Nat) : Int) 0 n + (if (0 : Nat).testBit n = true ∧ d n ≤ ((0 : Nat) : Int) then (1 : Int) else 0) = 0
        rw [ih, if_neg (fun z => nz_t z.1)]
        rfl
    rw [z, show ((0 : Nat) : Int) = 0 from rfl, Int.mul_zero]
  · rw [Nat.and_zero, ssm_0, ssm_0, Int.sub_self, Int.mul_zero]
    exact Int.le_refl _
theorem and_or_p (S t m : Nat) : S &&& (t ||| 2 ^ m) = if S.testBit m = true then (S &&& t) ||| 2 ^ m else S &&& t := by
  refine Nat.eq_of_testBit_eq (fun i => ?_)
  by_cases h : S.testBit m = true
  · rw [if_pos h, Nat.testBit_and, Nat.testBit_or, Nat.testBit_or, Nat.testBit_and, Nat.testBit_two_pow]
    by_cases e : m = i
    · subst e
      rw [h, decide_eq_true rfl, Bool.or_true, Bool.or_true]
      rfl
    · rw [decide_eq_false e, Bool.or_false, Bool.or_false]
  · rw [if_neg h, Nat.testBit_and, Nat.testBit_or, Nat.testBit_and, Nat.testBit_two_pow]
    by_cases e : m = i
    · subst e
      rw [Bool.eq_false_iff.mpr h]
      rfl
    · rw [decide_eq_false e, Bool.or_false]
theorem GI_step {v : Nat → Int} {s t m : Nat} (h : GI n d v ok k s t) (d1 : ∀ l, ok l → 1 ≤ d l) (hm : m < n) (hok : ok m) (hv : 0 ≤ v m) (hnt : ¬ t.testBit m = true) (hmax : ∀ l, l < n → ok l → ¬ t.testBit l = true → 0 ≤ v l → v l ≤ v m) {s' : Nat} (hs' : (okK d k (s ||| 2 ^ m) n 6 ∧ s' = s ||| 2 ^ m) ∨ (¬ okK d k (s ||| 2 ^ m) n 6 ∧ s' = s)) : GI n d v ok k s' (t ||| 2 ^ m) := by
  obtain ⟨h1, h2, h3, ⟨T, hT, hT1, hT2⟩, h5, h6⟩ := h
  have hns : ¬ s.testBit m = true := fun z => hnt (h1 m z)
  have tb : ∀ l, (t ||| 2 ^ m).testBit l = true ↔ (t.testBit l = true ∨ l = m) := fun l => by
    rw [Nat.testBit_or, Nat.testBit_two_pow, Bool.or_eq_true, decide_eq_true_eq]
    exact or_congr Iff.rfl ⟨fun z => z.symm, fun z => z.symm⟩
  have sb : ∀ l, (s ||| 2 ^ m).testBit l = true ↔ (s.testBit l = true ∨ l = m) := fun l => by
    rw [Nat.testBit_or, Nat.testBit_two_pow, Bool.or_eq_true, decide_eq_true_eq]
    exact or_congr Iff.rfl ⟨fun z => z.symm, fun z => z.symm⟩
  have c2 : ∀ l, (t ||| 2 ^ m).testBit l = true → l < n ∧ ok l ∧ 0 ≤ v l := fun l hl => by
    rcases (tb l).mp hl with z | z
    · exact h2 l z
    · subst z; exact ⟨hm, hok, hv⟩
  have c5 : ∀ l p, (t ||| 2 ^ m).testBit l = true → ¬ (t ||| 2 ^ m).testBit p = true → p < n → ok p → 0 ≤ v p → v p ≤ v l := fun l p hl hp q1 q2 q3 => by
    have hp2 : ¬ t.testBit p = true := fun z => hp ((tb p).mpr (Or.inl z))
    rcases (tb l).mp hl with z | z
    · exact h5 l p z hp2 q1 q2 q3
    · subst z; exact hmax p q1 q2 hp2 q3
  -- the tight week
  have c4 : (∀ l, s'.testBit l = true → (t ||| 2 ^ m).testBit l = true) ∧ okK d k s' n 6 ∧ ∃ T : Nat, T ≤ 6 ∧ due d (T : Int) s' n = k * (T : Int) ∧ ∀ l, (t ||| 2 ^ m).testBit l = true → ¬ s'.testBit l = true → d l ≤ (T : Int) := by
    rcases hs' with ⟨hK, rfl⟩ | ⟨hK, rfl⟩
    · refine ⟨fun l hl => (tb l).mpr (((sb l).mp hl).imp (h1 l) id), hK, T, hT, ?_, fun l hl hns2 => ?_⟩
      · rw [due_or d _ hm hns, hT1]
        by_cases c : d m ≤ (T : Int)
        · exfalso
          have dm := d1 m hok
          have := hK (T - 1) (by omega)
          rw [show ((T - 1 : Nat) : Int) + 1 = (T : Int) by omega, due_or d _ hm hns, hT1, if_pos c] at this
          omega
        · rw [if_neg c, Int.add_zero]
      · rcases (tb l).mp hl with z | z
        · exact hT2 l z (fun q => hns2 ((sb l).mpr (Or.inl q)))
        · exact absurd ((sb l).mpr (Or.inr z)) hns2
    · refine ⟨fun l hl => (tb l).mpr (Or.inl (h1 l hl)), h3, ?_⟩
      obtain ⟨u, hu, hu2⟩ : ∃ u : Nat, u < 6 ∧ ¬ due d ((u : Int) + 1) (s' ||| 2 ^ m) n ≤ k * ((u : Int) + 1) := by
        refine Classical.byContradiction (fun z => hK (fun t ht => ?_))
        exact Classical.byContradiction (fun y => z ⟨t, ht, y⟩)
      have g1 := h3 u hu
      rw [due_or d _ hm hns] at hu2
      have c : d m ≤ (u : Int) + 1 := Classical.byContradiction (fun y => by
        rw [if_neg y, Int.add_zero] at hu2
        exact hu2 g1)
      rw [if_pos c] at hu2
      have eqv : due d ((u : Int) + 1) s' n = k * ((u : Int) + 1) := by omega
      by_cases cT : u + 1 ≤ T
      · refine ⟨T, hT, hT1, fun l hl hns2 => ?_⟩
        rcases (tb l).mp hl with z | z
        · exact hT2 l z hns2
        · subst z; omega
      · refine ⟨u + 1, by omega, by rw [show ((u + 1 : Nat) : Int) = (u : Int) + 1 by omega]; exact eqv, fun l hl hns2 => ?_⟩
        rcases (tb l).mp hl with z | z
        · have := hT2 l z hns2
          omega
        · subst z; omega
  obtain ⟨c1, c3, T', hT', e1, e2⟩ := c4
  refine ⟨c1, c2, c3, ⟨T', hT', e1, e2⟩, c5, fun S hS hSk c hc hcl => ?_⟩
  have ih := h6 S hS hSk (v m) hv (fun l hl => h5 l m hl hnt hm hok hv)
  have rk := GI_rank (v := v) hT' e1 e2 d1 hS hSk
  have cm : c ≤ v m := hcl m ((tb m).mpr (Or.inr rfl))
  have nA : ¬ (S &&& t).testBit m = true := fun z => by
    rw [Nat.testBit_and, Bool.and_eq_true] at z
    exact hnt z.2
  have big : ssm v (S &&& (t ||| 2 ^ m)) n + v m * (ssm (fun _ => 1) s' n - ssm (fun _ => 1) (S &&& (t ||| 2 ^ m)) n) ≤ ssm v s' n := by
    have es : ∃ y : Int, ssm (fun _ => 1) s' n = ssm (fun _ => 1) s n + y ∧ ssm v s' n = ssm v s n + v m * y := by
      rcases hs' with ⟨_, rfl⟩ | ⟨_, rfl⟩
      · exact ⟨1, ssm_or _ hm hns, by rw [ssm_or _ hm hns, Int.mul_one]⟩
      · exact ⟨0, by omega, by rw [Int.mul_zero]; omega⟩
    have eS : ∃ y : Int, ssm (fun _ => 1) (S &&& (t ||| 2 ^ m)) n = ssm (fun _ => 1) (S &&& t) n + y ∧ ssm v (S &&& (t ||| 2 ^ m)) n = ssm v (S &&& t) n + v m * y := by
      rw [and_or_p]
      by_cases q : S.testBit m = true
      · rw [if_pos q]
        exact ⟨1, ssm_or _ hm nA, by rw [ssm_or _ hm nA, Int.mul_one]⟩
      · rw [if_neg q]
        exact ⟨0, by omega, by rw [Int.mul_zero]; omega⟩
    obtain ⟨y, y1, y2⟩ := es
    obtain ⟨u, u1, u2⟩ := eS
    rw [y1, y2, u1, u2]
    have ex : v m * (ssm (fun _ => 1) s n + y - (ssm (fun _ => 1) (S &&& t) n + u)) = v m * (ssm (fun _ => 1) s n - ssm (fun _ => 1) (S &&& t) n) + v m * y - v m * u := by
      rw [show ssm (fun _ => 1) s n + y - (ssm (fun _ => 1) (S &&& t) n + u) = (ssm (fun _ => 1) s n - ssm (fun _ => 1) (S &&& t) n) + y - u by omega, Int.mul_sub, Int.mul_add]
    rw [ex]
    omega
  have mono : c * (ssm (fun _ => 1) s' n - ssm (fun _ => 1) (S &&& (t ||| 2 ^ m)) n) ≤ v m * (ssm (fun _ => 1) s' n - ssm (fun _ => 1) (S &&& (t ||| 2 ^ m)) n) := Int.mul_le_mul_of_nonneg_right cm (by omega)
  omega
/-- at the end: nothing that can be kept is worth more -/
theorem GI_end {v : Nat → Int} {s t : Nat} (h : GI n d v ok k s t) (hall : ∀ l, l < n → ok l → ¬ t.testBit l = true → v l ≤ 0) {S : Nat} (hS : ∀ l, S.testBit l = true → l < n ∧ ok l) (hSk : okK d k S n 6) : ssm v S n ≤ ssm v s n := by
  have h1 := h.2.2.2.2.2 S hS hSk 0 (Int.le_refl _) (fun l hl => (h.2.1 l hl).2.2)
  rw [Int.zero_mul, Int.add_zero] at h1
  refine Int.le_trans (sm_le n (fun l hl => ?_)) h1
  show (if S.testBit l = true then v l else 0) ≤ (if (S &&& t).testBit l = true then v l else 0)
  rw [Nat.testBit_and]
  by_cases a1 : S.testBit l = true
  · by_cases a2 : t.testBit l = true
    · rw [a1, a2]
      exact Int.le_refl _
    · rw [if_pos a1, Bool.eq_false_iff.mpr a2, Bool.and_false, if_neg (by decide)]
      exact hall l hl (hS l a1).2 a2
  · rw [if_neg a1, Bool.eq_false_iff.mpr a1, Bool.false_and, if_neg (by decide)]
    exact Int.le_refl _
end GY
