-- kept, the reference's side
section KR
variable {m : Nat} {S : jSt} {F : Nat → Nat → Int}
theorem s_worthOf (R : RI m S F) (W : Wf (F 1)) {N : Nat} (hN : F 1 0 = (N : Int)) {s : Nat} (hs : s < 2147483648) : f_X12_worthOf (m : Int) (s : Int) (rS m S F) = some (ssm (kw (F 1)) s N, rS m S F) := by
  have w0 := W.1.1
  unfold f_X12_worthOf f_X12_worthOf_b4
  refine lp (fun (r : Int → Int → Int → Int → fK) i => r (m : Int) (s : Int) (ssm (kw (F 1)) s i) (i : Int) (rS m S F)) (N := N) ?_ ?_ jN 0 (by omega) (by unfold jN; omega)
  · intro r i hi hr
    show f_X12_worthOf_b4B r _ _ _ _ _ = _
    unfold f_X12_worthOf_b4B f_X12_worthOf_b33
    have wl : 0 ≤ kw (F 1) i ∧ kw (F 1) i ≤ 99 := (W.2.1 i (by omega)).2.2.1
    have sb := ssm_b (w := kw (F 1)) (c := 99) s i (by omega) (fun j hj => (W.2.1 j (by omega)).2.2.1)
    rw [r_a R, r_al R (by omega) (by omega), show (0 : Int).toNat = 0 from rfl, hN, if_neg (by omega), s_has hs (by omega), fcall_some, if_b01]
    simp only [flet_eq]
    rw [w32_of (z := (i : Int) + 1) (by omega) (by omega), zs]
    rw [ssm_s] at hr
    by_cases h : s.testBit i = true
    · rw [if_pos h, r_cv R, s_get R (by omega) (by omega) (by omega) (by omega), fcall_some, show 11 + 5 * ((i : Nat) : Int).toNat + (2 : Int).toNat = 13 + 5 * i by omega]
      rw [if_pos h] at hr
      rw [show F 1 (13 + 5 * i) = kw (F 1) i from rfl, w32_of (by omega) (by omega)]
      exact hr
    · rw [if_neg h, w32_of (by omega) (by omega)]
      rw [if_neg h] at hr
      exact hr
  · intro r
    show f_X12_worthOf_b4B r _ _ _ _ _ = _
    unfold f_X12_worthOf_b4B
    rw [r_a R, r_al R (by omega) (by omega), show (0 : Int).toNat = 0 from rfl, hN, if_pos (by omega)]
theorem s_canKeep (R : RI m S F) (W : Wf (F 1)) {N : Nat} (hN : F 1 0 = (N : Int)) {s k f : Nat} (hs : s < 2147483648) (hk : k ≤ 12) (hf : sfl (F 1) = (f : Int)) : f_X12_canKeep (m : Int) (s : Int) (k : Int) (rS m S F) = some (bb (okK (kd (F 1)) (k : Int) s N (6 - f)), rS m S F) := by
  have w0 := W.1.1
  have sb := sfl_b W.1
  unfold f_X12_canKeep f_X12_canKeep_b2
  refine lpe (fun (r : Int → Int → Int → Int → fK) i (_ : Unit) => r (m : Int) (s : Int) (k : Int) ((i + 1 : Nat) : Int) (rS m S F)) (fun i _ => okK (kd (F 1)) (k : Int) s N i) (fun r => r = some (bb (okK (kd (F 1)) (k : Int) s N (6 - f)), rS m S F)) (N := 6 - f) ?_ ?_ jN 0 () (by omega) (by unfold jN; omega) (fun t ht => by omega)
  · intro r i _ hi hinv ih
    show f_X12_canKeep_b2B r _ _ _ _ _ = _
    unfold f_X12_canKeep_b2B
    rw [r_cv R, s_saleFloor R, fcall_some, hf, w32_of (by omega) (by omega), if_neg (by omega)]
    unfold f_X12_canKeep_b19
    refine lp (fun (q : Int → Int → Int → Int → Int → Int → fK) j => q (m : Int) (s : Int) (k : Int) ((i + 1 : Nat) : Int) (due (kd (F 1)) ((i : Int) + 1) s j) (j : Int) (rS m S F)) (N := N) ?_ ?_ jN 0 (by omega) (by unfold jN; omega)
    · intro q j hj hq
      show f_X12_canKeep_b19B r q _ _ _ _ _ _ _ = _
      unfold f_X12_canKeep_b19B f_X12_canKeep_b63 f_X12_canKeep_b64
      have wl := (W.2.1 j (by omega)).1
      have db := due_b (kd (F 1)) ((i : Int) + 1) s j
      have e : due (kd (F 1)) ((i : Int) + 1) s (j + 1) = due (kd (F 1)) ((i : Int) + 1) s j + (if s.testBit j = true ∧ kd (F 1) j ≤ (i : Int) + 1 then 1 else 0) := rfl
      have ek : kd (F 1) j = F 1 (11 + 5 * j) - sfl (F 1) + 1 := rfl
      rw [r_a R, r_al R (by omega) (by omega), show (0 : Int).toNat = 0 from rfl, hN, if_neg (by omega), s_has hs (by omega), fcall_some, if_b01]
      simp only [flet_eq]
      rw [w32_of (z := (j : Int) + 1) (by omega) (by omega), zs j, w32_of (z := due (kd (F 1)) ((i : Int) + 1) s j + 1) (by omega) (by omega), w32_of (z := due (kd (F 1)) ((i : Int) + 1) s j + 0) (by omega) (by omega), Int.add_zero]
      rw [e] at hq
      by_cases h1 : s.testBit j = true
      · rw [if_pos h1, r_cv R, s_get R (by omega) (by omega) (by omega) (by omega), fcall_some, show 11 + 5 * ((j : Nat) : Int).toNat + (0 : Int).toNat = 11 + 5 * j by omega, r_cv R, s_saleFloor R, fcall_some, w32_of (z := F 1 (11 + 5 * j) - sfl (F 1)) (by omega) (by omega), w32_of (by omega) (by omega)]
        by_cases h2 : ((i + 1 : Nat) : Int) < F 1 (11 + 5 * j) - sfl (F 1) + 1
        · rw [if_pos h2]
          rw [if_neg (fun z => by have := z.2; omega), Int.add_zero] at hq
          exact hq
        · rw [if_neg h2]
          rw [if_pos ⟨h1, by omega⟩] at hq
          exact hq
      · rw [if_neg h1]
        rw [if_neg (fun z => h1 z.1), Int.add_zero] at hq
        exact hq
    · intro q
      show f_X12_canKeep_b19B r q _ _ _ _ _ _ _ = _
      unfold f_X12_canKeep_b19B
      have mb : 0 ≤ (k : Int) * ((i + 1 : Nat) : Int) ∧ (k : Int) * ((i + 1 : Nat) : Int) ≤ 12 * 6 := ⟨Int.mul_nonneg (by omega) (by omega), Int.mul_le_mul (by omega) (by omega) (by omega) (by omega)⟩
      rw [r_a R, r_al R (by omega) (by omega), show (0 : Int).toNat = 0 from rfl, hN, if_pos (by omega), w32_of (z := (k : Int) * ((i + 1 : Nat) : Int)) (by omega) (by omega), flet_eq, w32_of (by omega) (by omega), zs (i + 1)]
      have ei : ((i + 1 : Nat) : Int) = (i : Int) + 1 := by omega
      by_cases h1 : due (kd (F 1)) ((i : Int) + 1) s N ≤ (k : Int) * ((i + 1 : Nat) : Int)
      · rw [if_pos h1]
        refine ih () (fun t ht => ?_)
        by_cases hti : t = i
        · subst hti
          rw [ei] at h1
          exact h1
        · exact hinv t (by omega)
      · rw [if_neg h1, bb_f (fun z => h1 (by rw [ei]; exact z i hi))]
  · intro r _ hinv
    show f_X12_canKeep_b2B r _ _ _ _ _ = _
    unfold f_X12_canKeep_b2B
    rw [r_cv R, s_saleFloor R, fcall_some, hf, w32_of (by omega) (by omega), if_pos (by omega), bb_t hinv]
/-- the last weeks ask nothing more -/
theorem okK_last {a : Nat → Int} (W : Wf a) {N f : Nat} (hN : a 0 = (N : Int)) (hf : sfl a = (f : Int)) {k : Int} (hk : 0 ≤ k) {s : Nat} (hs : ∀ l, s.testBit l = true → l < N ∧ kok a l) : okK (kd a) k s N (6 - f) ↔ okK (kd a) k s N 6 := by
  have sb := sfl_b W.1
  constructor
  · intro h t ht
    by_cases c : t < 6 - f
    · exact h t c
    · have h1 := h (5 - f) (by omega)
      have e : due (kd a) ((t : Int) + 1) s N = due (kd a) (((5 - f : Nat) : Int) + 1) s N := sm_eq N (fun l hl => by
        show (if s.testBit l = true ∧ kd a l ≤ (t : Int) + 1 then (1 : Int) else 0) = (if s.testBit l = true ∧ kd a l ≤ ((5 - f : Nat) : Int) + 1 then (1 : Int) else 0)
        by_cases b : s.testBit l = true
        · have wl := (W.2.1 l (by omega)).1
          have ek : kd a l = a (11 + 5 * l) - sfl a + 1 := rfl
          rw [if_pos ⟨b, by omega⟩, if_pos ⟨b, by omega⟩]
        · rw [if_neg (fun z => b z.1), if_neg (fun z => b z.1)])
      rw [e]
      exact Int.le_trans h1 (Int.mul_le_mul_of_nonneg_left (by omega) hk)
  · intro h t ht
    exact h t (by omega)
theorem kv_e (a : Nat → Int) {s N : Nat} (hs : s < 2 ^ N) (hN : N ≤ 12) : ssm (kv a) s N = 1048576 * ssm (kw a) s N + (-8192 * ((pcf 31 s : Nat) : Int) + -1 * (s : Int)) := by
  have h1 : ssm (kv a) s N = ssm (fun l => 1048576 * kw a l + (-8192 * 1 + -1 * ((2 ^ l : Nat) : Int))) s N := rfl
  rw [h1, ssm_add (fun l => 1048576 * kw a l) (fun l => -8192 * 1 + -1 * ((2 ^ l : Nat) : Int)), ssm_mul 1048576 (kw a), ssm_add (fun _ => -8192 * 1) (fun l => -1 * ((2 ^ l : Nat) : Int)), ssm_mul (-8192) (fun _ => 1), ssm_mul (-1) (fun l => ((2 ^ l : Nat) : Int)), ssm_pc hs (by omega), ssm_num N s hs]
theorem KB_u {a : Nat → Int} {k : Int} {N G G' : Nat} (hN : N ≤ 12) (h : KB a k N G) (h' : KB a k N G') : G = G' := by
  have l1 := lt_of_bits (fun l hl => (h.1 l hl).1)
  have l2 := lt_of_bits (fun l hl => (h'.1 l hl).1)
  have p1 := pcf_le 31 G
  have p2 := pcf_le 31 G'
  have N12 : 2 ^ N ≤ 4096 := Nat.pow_le_pow_right (n := 2) (by decide) hN
  have e1 := h.2.2 G' h'.1 h'.2.1
  have e2 := h'.2.2 G h.1 h.2.1
  rw [kv_e a l1 hN, kv_e a l2 hN] at e1 e2
  omega
def allM (a : Nat → Int) (N : Nat) : Nat := mk (fun l => decide (a (12 + 5 * l) = 0 ∧ sfl a ≤ a (11 + 5 * l))) N
theorem allM_t (a : Nat → Int) (N l : Nat) : (allM a N).testBit l = true ↔ (l < N ∧ kok a l) := by
  unfold allM
  rw [mk_bit, Bool.and_eq_true, decide_eq_true_eq, decide_eq_true_eq]
  exact Iff.rfl
theorem s_keptAll (R : RI m S F) (W : Wf (F 1)) {N f : Nat} (hN : F 1 0 = (N : Int)) (hf : sfl (F 1) = (f : Int)) (k w : Int) : f_X12_kept_b20 (m : Int) k w 0 (f : Int) (rS m S F) = f_X12_kept_b47 (m : Int) k w ((allM (F 1) N : Nat) : Int) 0 1 (rS m S F) := by
  have w0 := W.1.1
  have sb := sfl_b W.1
  have N12 : 2 ^ N ≤ 4096 := Nat.pow_le_pow_right (n := 2) (by decide) (show N ≤ 12 by omega)
  have hN2 : (F 1 0).toNat = N := by omega
  unfold f_X12_kept_b20
  have ml : ∀ p, mk p N < 4096 := fun p => Nat.lt_of_lt_of_le (mk_lt p N) N12
  have z0 : mk (fun l => decide (F 1 (12 + 5 * l) = 0 ∧ sfl (F 1) ≤ F 1 (11 + 5 * l) ∧ F 1 (11 + 5 * l) < sfl (F 1) + ((0 : Nat) : Int))) N = 0 := Nat.eq_of_testBit_eq (fun i => by
    rw [mk_bit, Nat.zero_testBit]
    by_cases c : i < N
    · rw [decide_eq_false (show ¬ (F 1 (12 + 5 * i) = 0 ∧ sfl (F 1) ≤ F 1 (11 + 5 * i) ∧ F 1 (11 + 5 * i) < sfl (F 1) + ((0 : Nat) : Int)) from fun z => by have := z.2.1; have := z.2.2; omega), Bool.and_false]
    · rw [decide_eq_false c, Bool.false_and])
  have key := lp (z := fun _ _ _ _ _ _ => none) (s := fun r => f_X12_kept_b20B r) (fun (r : Int → Int → Int → Int → Int → fK) i => r (m : Int) k w ((mk (fun l => decide (F 1 (12 + 5 * l) = 0 ∧ sfl (F 1) ≤ F 1 (11 + 5 * l) ∧ F 1 (11 + 5 * l) < sfl (F 1) + (i : Int))) N : Nat) : Int) ((f + i : Nat) : Int) (rS m S F)) (N := 6 - f) (res := f_X12_kept_b47 (m : Int) k w ((allM (F 1) N : Nat) : Int) 0 1 (rS m S F)) ?_ ?_ jN 0 (by omega) (by unfold jN; omega)
  · simp only [z0, Nat.add_zero] at key
    exact key
  · intro r i hi hr
    show f_X12_kept_b20B r _ _ _ _ _ _ = _
    unfold f_X12_kept_b20B
    have lf : lotsF (F 1) ((f + i : Nat) : Int) < 4096 := by
      unfold lotsF
      rw [hN2]
      exact ml _
    have e : mk (fun l => decide (F 1 (12 + 5 * l) = 0 ∧ sfl (F 1) ≤ F 1 (11 + 5 * l) ∧ F 1 (11 + 5 * l) < sfl (F 1) + (i : Int))) N ||| lotsF (F 1) ((f + i : Nat) : Int) = mk (fun l => decide (F 1 (12 + 5 * l) = 0 ∧ sfl (F 1) ≤ F 1 (11 + 5 * l) ∧ F 1 (11 + 5 * l) < sfl (F 1) + ((i + 1 : Nat) : Int))) N := Nat.eq_of_testBit_eq (fun l => by
      unfold lotsF
      rw [Nat.testBit_or, mk_bit, mk_bit, mk_bit, hN2]
      by_cases c : l < N
      · rw [decide_eq_true c, Bool.true_and, Bool.true_and, Bool.true_and, ← Bool.decide_or]
        congr 1
        apply propext
        constructor
        · rintro (⟨q1, q2, q3⟩ | ⟨q1, q2⟩)
          · exact ⟨q1, q2, by omega⟩
          · exact ⟨q1, by omega, by omega⟩
        · rintro ⟨q1, q2, q3⟩
          by_cases q : F 1 (11 + 5 * l) = ((f + i : Nat) : Int)
          · exact Or.inr ⟨q1, q⟩
          · exact Or.inl ⟨q1, q2, by omega⟩
      · rw [decide_eq_false c, Bool.false_and, Bool.false_and, Bool.false_and, Bool.false_or])
    rw [if_neg (by omega), r_cv R, s_lotsAt R W.1.1, fcall_some, flet_eq, flet_eq, ior_n (Nat.lt_of_lt_of_le (ml _) (by omega)) (by omega), e, w32_of (by omega) (by omega), show ((f + i : Nat) : Int) + 1 = ((f + (i + 1) : Nat) : Int) by omega]
    exact hr
  · intro r
    show f_X12_kept_b20B r _ _ _ _ _ _ = _
    unfold f_X12_kept_b20B
    have e : mk (fun l => decide (F 1 (12 + 5 * l) = 0 ∧ sfl (F 1) ≤ F 1 (11 + 5 * l) ∧ F 1 (11 + 5 * l) < sfl (F 1) + ((6 - f : Nat) : Int))) N = allM (F 1) N := by
      unfold allM
      refine mk_congr (fun l hl => ?_)
      have wl := (W.2.1 l (by omega)).1
      congr 1
      apply propext
      exact ⟨fun z => ⟨z.1, z.2.1⟩, fun z => ⟨z.1, z.2, by omega⟩⟩
    rw [if_pos (by omega), e]
theorem s_kept47 (R : RI m S F) (W : Wf (F 1)) {N : Nat} (hN : F 1 0 = (N : Int)) {k : Nat} (hk : k ≤ 12) (w : Int) : ∃ G : Nat, f_X12_kept_b47 (m : Int) (k : Int) w ((allM (F 1) N : Nat) : Int) 0 1 (rS m S F) = some (if w = 0 then (G : Int) else ssm (kw (F 1)) G N, rS m S F) ∧ KB (F 1) (k : Int) N G := by
  have w0 := W.1.1
  have sb := sfl_b W.1
  obtain ⟨f, hf⟩ : ∃ f : Nat, sfl (F 1) = (f : Int) := ⟨(sfl (F 1)).toNat, by omega⟩
  have N12 : 2 ^ N ≤ 4096 := Nat.pow_le_pow_right (n := 2) (by decide) (show N ≤ 12 by omega)
  have al : allM (F 1) N < 2 ^ N := mk_lt _ N
  have sub : ∀ s, (∀ l, s.testBit l = true → l < N ∧ kok (F 1) l) ↔ s ^^^ (s &&& allM (F 1) N) = 0 := fun s => by
    rw [anot_0]
    exact ⟨fun h l hl => (allM_t _ _ _).mpr (h l hl), fun h l hl => (allM_t _ _ _).mp (h l hl)⟩
  have le_all : ∀ s, (∀ l, s.testBit l = true → l < N ∧ kok (F 1) l) → s ≤ allM (F 1) N := fun s h => by
    have : s = s &&& allM (F 1) N := Nat.eq_of_testBit_eq (fun i => by
      rw [Nat.testBit_and]
      cases b : s.testBit i
      · rfl
      · rw [(allM_t _ _ _).mpr (h i b)]
        rfl)
    rw [this]
    exact Nat.and_le_right
  unfold f_X12_kept_b47
  refine lpe (fun (r : Int → Int → Int → Int → Int → Int → fK) i (b : Nat) => r (m : Int) (k : Int) w ((allM (F 1) N : Nat) : Int) (b : Int) ((i + 1 : Nat) : Int) (rS m S F)) (fun i b => b ≤ i ∧ (∀ l, b.testBit l = true → l < N ∧ kok (F 1) l) ∧ okK (kd (F 1)) (k : Int) b N 6 ∧ ∀ s, s ≤ i → (∀ l, s.testBit l = true → l < N ∧ kok (F 1) l) → okK (kd (F 1)) (k : Int) s N 6 → ssm (kv (F 1)) s N ≤ ssm (kv (F 1)) b N) (fun r => ∃ G : Nat, r = some (if w = 0 then (G : Int) else ssm (kw (F 1)) G N, rS m S F) ∧ KB (F 1) (k : Int) N G) (N := allM (F 1) N) ?_ ?_ jN 0 0 (by omega) (by unfold jN; omega) ⟨Nat.le_refl _, fun l h => (nz_t h).elim, okK_0 (by omega), fun s hs _ _ => by rw [show s = 0 by omega]; exact Int.le_refl _⟩
  · intro r i b hi hinv ih
    obtain ⟨b1, b2, b3, b4⟩ := hinv
    show ∃ G : Nat, f_X12_kept_b47B r _ _ _ _ _ _ _ = _ ∧ _
    unfold f_X12_kept_b47B f_X12_kept_b103 f_X12_kept_b117
    have lb := lt_of_bits (fun l hl => (b2 l hl).1)
    have wb := ssm_b (w := kw (F 1)) (c := 99) b N (by omega) (fun j hj => (W.2.1 j (by omega)).2.2.1)
    have ws := ssm_b (w := kw (F 1)) (c := 99) (i + 1) N (by omega) (fun j hj => (W.2.1 j (by omega)).2.2.1)
    have li : i + 1 < 2 ^ N := by omega
    have p1 := pcf_le 31 (i + 1)
    have p2 := pcf_le 31 b
    have kvb := kv_e (F 1) lb (by omega)
    have kvi := kv_e (F 1) li (by omega)
    rw [if_neg (by omega), anot (by omega)]
    simp only [flet_eq]
    rw [w32_of (z := ((i + 1 : Nat) : Int) + 1) (by omega) (by omega), zs (i + 1)]
    have stay : (¬ ((∀ l, (i + 1).testBit l = true → l < N ∧ kok (F 1) l) ∧ okK (kd (F 1)) (k : Int) (i + 1) N 6) ∨ ssm (kv (F 1)) (i + 1) N ≤ ssm (kv (F 1)) b N) → ∃ G : Nat, r (m : Int) (k : Int) w ((allM (F 1) N : Nat) : Int) (b : Int) ((i + 1 + 1 : Nat) : Int) (rS m S F) = some (if w = 0 then (G : Int) else ssm (kw (F 1)) G N, rS m S F) ∧ KB (F 1) (k : Int) N G := fun hz => ih b ⟨by omega, b2, b3, fun s hs h1 h2 => by
      by_cases e : s = i + 1
      · subst e
        rcases hz with hz | hz
        · exact absurd ⟨h1, h2⟩ hz
        · exact hz
      · exact b4 s (by omega) h1 h2⟩
    by_cases c1 : (i + 1) ^^^ ((i + 1) &&& allM (F 1) N) = 0
    · have fs := (sub (i + 1)).mpr c1
      rw [if_pos (by omega), r_cv R, s_worthOf R W hN (by omega), fcall_some, r_cv R, s_worthOf R W hN (by omega), fcall_some, w32_of (z := ssm (kw (F 1)) (i + 1) N - ssm (kw (F 1)) b N) (by omega) (by omega), s_bits (by omega), fcall_some, s_bits (by omega), fcall_some, r_cv R, s_canKeep R W hN (by omega) hk hf, fcall_some]
      have tk : ssm (kv (F 1)) b N ≤ ssm (kv (F 1)) (i + 1) N → ∃ G : Nat, (if bb (okK (kd (F 1)) (k : Int) (i + 1) N (6 - f)) = 0 then r (m : Int) (k : Int) w ((allM (F 1) N : Nat) : Int) (b : Int) ((i + 1 + 1 : Nat) : Int) (rS m S F) else r (m : Int) (k : Int) w ((allM (F 1) N : Nat) : Int) ((i + 1 : Nat) : Int) ((i + 1 + 1 : Nat) : Int) (rS m S F)) = some (if w = 0 then (G : Int) else ssm (kw (F 1)) G N, rS m S F) ∧ KB (F 1) (k : Int) N G := fun hle => by
        by_cases c2 : bb (okK (kd (F 1)) (k : Int) (i + 1) N (6 - f)) = 0
        · rw [if_pos c2]
          exact stay (Or.inl (fun z => bb_0.mp c2 ((okK_last W hN hf (by omega) fs).mpr z.2)))
        · rw [if_neg c2]
          refine ih (i + 1) ⟨Nat.le_refl _, fs, (okK_last W hN hf (by omega) fs).mp (of_bb c2), fun s hs h1 h2 => ?_⟩
          by_cases e : s = i + 1
          · subst e
            exact Int.le_refl _
          · exact Int.le_trans (b4 s (by omega) h1 h2) hle
      by_cases c3 : 0 < ssm (kw (F 1)) (i + 1) N - ssm (kw (F 1)) b N
      · rw [if_pos c3]
        exact tk (by omega)
      · rw [if_neg c3]
        by_cases c4 : ssm (kw (F 1)) (i + 1) N - ssm (kw (F 1)) b N = 0
        · rw [if_pos c4]
          by_cases c5 : ((pcf 31 b : Nat) : Int) ≤ ((pcf 31 (i + 1) : Nat) : Int)
          · rw [if_pos c5]
            exact stay (Or.inr (by omega))
          · rw [if_neg c5]
            exact tk (by omega)
        · rw [if_neg c4]
          exact stay (Or.inr (by omega))
    · rw [if_neg (by omega)]
      exact stay (Or.inl (fun z => c1 ((sub (i + 1)).mp z.1)))
  · intro r b hinv
    obtain ⟨b1, b2, b3, b4⟩ := hinv
    have lb := lt_of_bits (fun l hl => (b2 l hl).1)
    show ∃ G : Nat, f_X12_kept_b47B r _ _ _ _ _ _ _ = _ ∧ _
    unfold f_X12_kept_b47B f_X12_kept_b138
    refine ⟨b, ?_, b2, b3, fun s h1 h2 => b4 s (le_all s h1) h1 h2⟩
    rw [if_pos (by omega), r_cv R, s_worthOf R W hN (by omega), fcall_some]
    by_cases hw : w = 0
    · rw [if_pos hw, if_pos hw]
    · rw [if_neg hw, if_neg hw]
end KR
section KG
variable {x : Nat}
theorem g_kept (k w : Int) : Good x (f_X11_kept (x : Int) k w) (f_X12_kept ((x + 426 : Nat) : Int) k w) := Good_q (fun Z C F V h H => by
  have I := H.1
  have T := h.2.1.1
  have HH := H.2.2.1
  have W := H.2.2.2.1
  have w0 := W.1.1
  have sb := sfl_b W.1
  unfold f_X11_kept f_X12_kept
  obtain ⟨N, hN⟩ : ∃ N : Nat, F 1 0 = (N : Int) := ⟨(F 1 0).toNat, by omega⟩
  obtain ⟨f, hf⟩ : ∃ f : Nat, sfl (F 1) = (f : Int) := ⟨(sfl (F 1)).toNat, by omega⟩
  by_cases hk : 1 ≤ k ∧ k ≤ 12
  · obtain ⟨k, rfl⟩ : ∃ n : Nat, k = (n : Int) := ⟨k.toNat, by omega⟩
    obtain ⟨G, g1, g2⟩ := c_bestKept I T HH W hN (k := k) (by omega)
    have lG := lt_of_bits (fun l hl => (g2.1 l hl).1)
    have N12 : 2 ^ N ≤ 4096 := Nat.pow_le_pow_right (n := 2) (by decide) (show N ≤ 12 by omega)
    refine ⟨if w = 0 then (G : Int) else ssm (kw (F 1)) G N, ?_, fun S2 hS R2 => ?_⟩
    · rw [s_within, fcall_some, if_b01, if_pos hk, cr0_9 I, cr0_1 I, c_v I (i := 417) (by decide) rfl, g1, fcall_some]
      by_cases hw : w = 0
      · rw [if_pos hw, if_pos hw]
      · rw [if_neg hw, if_neg hw]
        unfold f_X11_kept_b37
        refine lp (fun (r : Int → Int → Int → Int → fK) i => r (x : Int) (G : Int) (ssm (kw (F 1)) G i) (i : Int) (cS x (gS (x + 426) 12 Z F) C)) (N := N) ?_ ?_ jN 0 (by omega) (by unfold jN; omega)
        · intro r i hi hr
          show f_X11_kept_b37B r _ _ _ _ _ = _
          unfold f_X11_kept_b37B
          obtain ⟨e3, _⟩ := T.2.2.2.2 i (by omega)
          have wl : 0 ≤ kw (F 1) i ∧ kw (F 1) i ≤ 99 := (W.2.1 i (by omega)).2.2.1
          have sb2 := ssm_b (w := kw (F 1)) (c := 99) G i (by omega) (fun j hj => (W.2.1 j (by omega)).2.2.1)
          rw [ssm_s] at hr
          rw [cr0_0 I, cg_1 I, T.1, hN, if_neg (by omega), cr0_0 I, cr1_2 I, al_2 I (by omega) (by omega), toNat_z, show C 2 i = kw (F 1) i from e3, bit_n (by omega) (by omega)]
          simp only [flet_eq]
          rw [w32_of (z := (i : Int) + 1) (by omega) (by omega), zs]
          by_cases hb : G.testBit i = true
          · rw [if_pos hb, Int.one_mul, w32_of (z := kw (F 1) i) (by omega) (by omega), w32_of (by omega) (by omega)]
            rw [if_pos hb] at hr
            exact hr
          · rw [if_neg hb, Int.zero_mul, w32_of (z := 0) (by omega) (by omega), w32_of (by omega) (by omega)]
            rw [if_neg hb] at hr
            exact hr
        · intro r
          show f_X11_kept_b37B r _ _ _ _ _ = _
          unfold f_X11_kept_b37B
          rw [cr0_0 I, cg_1 I, T.1, hN, if_pos (by omega)]
    · have R := R2.1
      obtain ⟨G', q1, q2⟩ := s_kept47 R W hN (k := k) (by omega) w
      rw [s_isIn, fcall_some, if_b01, if_pos hk, r_cv R, s_saleFloor R, fcall_some, hf, s_keptAll R W hN hf, q1, KB_u (by omega) q2 g2]
  · refine ⟨-1, ?_, fun S2 hS R2 => ?_⟩
    · rw [s_within, fcall_some, if_b01, if_neg hk]
    · rw [s_isIn, fcall_some, if_b01, if_neg hk])
end KG
