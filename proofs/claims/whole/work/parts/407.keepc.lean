-- kept, the class' side
section KC
variable {x : Nat} {S : jSt} {C : Nat → Nat → Int} {a : Nat → Int}
theorem and_not32 (p q : Int32) : p &&& (q ^^^ (Int32.ofInt (-1))) = p ^^^ (p &&& q) := by
  apply Int32.toBitVec_inj.mp
  rw [Int32.toBitVec_and, Int32.toBitVec_xor, Int32.toBitVec_xor, Int32.toBitVec_and, show (Int32.ofInt (-1)).toBitVec = BitVec.allOnes 32 by decide]
  apply BitVec.eq_of_getElem_eq
  intro i hi
  rw [BitVec.getElem_and, BitVec.getElem_xor, BitVec.getElem_xor, BitVec.getElem_and, BitVec.getElem_allOnes]
  cases p.toBitVec[i] <;> cases q.toBitVec[i] <;> rfl
theorem anot {s u : Nat} (hs : s < 2147483648) : iand32 (s : Int) (ixor32 (u : Int) (-1)) = ((s ^^^ (s &&& u) : Nat) : Int) := by
  have h1 : s ^^^ (s &&& u) < 2147483648 := by
    rw [lt31] at hs ⊢
    exact Nat.xor_lt_two_pow hs (Nat.lt_of_le_of_lt Nat.and_le_left hs)
  unfold iand32 ixor32
  rw [jof_toInt, and_not32, ofN, ofN, nI_and, nI_xor, toN h1]
theorem anot_t (s u i : Nat) : (s ^^^ (s &&& u)).testBit i = (s.testBit i && !u.testBit i) := by
  rw [Nat.testBit_xor, Nat.testBit_and]
  cases s.testBit i <;> cases u.testBit i <;> rfl
theorem anot_0 {s u : Nat} : s ^^^ (s &&& u) = 0 ↔ ∀ i, s.testBit i = true → u.testBit i = true := by
  constructor
  · intro h i hi
    have := anot_t s u i
    rw [h, Nat.zero_testBit, hi] at this
    cases hu : u.testBit i
    · rw [hu] at this
      exact Bool.noConfusion this
    · rfl
  · intro h
    refine Nat.eq_of_testBit_eq (fun i => ?_)
    rw [anot_t, Nat.zero_testBit]
    cases hs : s.testBit i
    · rfl
    · rw [h i hs]
      rfl
theorem sfl_b (W : WfN a) : 0 ≤ sfl a ∧ sfl a ≤ 5 := by
  have := W.2.2.2.2.2.1
  unfold sfl
  split <;> omega
def kd (a : Nat → Int) (l : Nat) : Int := a (11 + 5 * l) - sfl a + 1
def kok (a : Nat → Int) (l : Nat) : Prop := a (12 + 5 * l) = 0 ∧ sfl a ≤ a (11 + 5 * l)
def kw (a : Nat → Int) (l : Nat) : Int := a (13 + 5 * l)
def kv (a : Nat → Int) (l : Nat) : Int := 1048576 * kw a l + (-8192 * 1 + -1 * ((2 ^ l : Nat) : Int))
theorem kok_d {l : Nat} (h : kok a l) : 1 ≤ kd a l := by
  unfold kd
  have := h.2
  omega
theorem pw12 {l : Nat} (h : l < 12) : 2 ^ l ≤ 2048 := Nat.pow_le_pow_right (n := 2) (by decide) (show l ≤ 11 by omega)
def drs (a : Nat → Int) (t : Nat) : Nat → Int × Int
  | 0 => (-1, 0)
  | l + 1 => if ¬ t.testBit l = true ∧ (a (12 + 5 * l) = 0 ∧ sfl a ≤ a (11 + 5 * l)) ∧ (drs a t l).2 < a (13 + 5 * l) then ((l : Int), a (13 + 5 * l)) else drs a t l
theorem drs_p (a : Nat → Int) (t : Nat) : ∀ n, ((drs a t n).1 = -1 ∧ (drs a t n).2 = 0 ∧ ∀ l, l < n → kok a l → ¬ t.testBit l = true → kw a l ≤ 0) ∨ ∃ m : Nat, m < n ∧ (drs a t n).1 = (m : Int) ∧ (drs a t n).2 = kw a m ∧ 0 < kw a m ∧ kok a m ∧ ¬ t.testBit m = true ∧ ∀ l, l < n → kok a l → ¬ t.testBit l = true → (kw a l < kw a m ∨ (kw a l = kw a m ∧ m ≤ l))
  | 0 => Or.inl ⟨rfl, rfl, fun l hl => by omega⟩
  | n + 1 => by
    have ih := drs_p a t n
    have e : drs a t (n + 1) = if ¬ t.testBit n = true ∧ (a (12 + 5 * n) = 0 ∧ sfl a ≤ a (11 + 5 * n)) ∧ (drs a t n).2 < a (13 + 5 * n) then ((n : Int), a (13 + 5 * n)) else drs a t n := rfl
    rw [e]
    by_cases c : ¬ t.testBit n = true ∧ (a (12 + 5 * n) = 0 ∧ sfl a ≤ a (11 + 5 * n)) ∧ (drs a t n).2 < a (13 + 5 * n)
    · rw [if_pos c]
      have c3 : (drs a t n).2 < kw a n := c.2.2
      refine Or.inr ⟨n, by omega, rfl, rfl, ?_, c.2.1, c.1, fun l hl h1 h2 => ?_⟩
      · rcases ih with ⟨_, h, _⟩ | ⟨m, _, _, h, h0, _⟩ <;> omega
      · by_cases hln : l = n
        · subst hln; right; omega
        · left
          rcases ih with ⟨_, h, hh⟩ | ⟨m, _, _, h, h0, _, _, hh⟩
          · have := hh l (by omega) h1 h2
            omega
          · have := hh l (by omega) h1 h2
            omega
    · rw [if_neg c]
      rcases ih with ⟨g1, g2, g3⟩ | ⟨m, g0, g1, g2, g3, g4, g5, g6⟩
      · refine Or.inl ⟨g1, g2, fun l hl h1 h2 => ?_⟩
        by_cases hln : l = n
        · subst hln
          have : ¬ (drs a t l).2 < kw a l := fun z => c ⟨h2, h1, z⟩
          omega
        · exact g3 l (by omega) h1 h2
      · refine Or.inr ⟨m, by omega, g1, g2, g3, g4, g5, fun l hl h1 h2 => ?_⟩
        by_cases hln : l = n
        · subst hln
          have : ¬ (drs a t l).2 < kw a l := fun z => c ⟨h2, h1, z⟩
          omega
        · exact g6 l (by omega) h1 h2
theorem c_dearestU (I : CI x S C) (T : Td a C 1) (H : Hs a C 14) (W : Wf a) {N : Nat} (hN : a 0 = (N : Int)) {t : Nat} (ht : t < 2147483648) : f_X0_dearestUntried ((x + 417 : Nat) : Int) ((x + 14 : Nat) : Int) (t : Int) (cS x S C) = some ((drs a t N).1, cS x S C) := by
  have w0 := W.1.1
  have t0 := T.1
  unfold f_X0_dearestUntried f_X0_dearestUntried_b8
  refine lp (fun (r : Int → Int → Int → Int → Int → Int → fK) i => r ((x + 417 : Nat) : Int) ((x + 14 : Nat) : Int) (t : Int) (drs a t i).1 (drs a t i).2 (i : Int) (cS x S C)) (N := N) ?_ ?_ jN 0 (by omega) (by unfold jN; omega)
  · intro r i hi hr
    show f_X0_dearestUntried_b8B r _ _ _ _ _ _ _ = _
    unfold f_X0_dearestUntried_b8B f_X0_dearestUntried_b57 f_X0_dearestUntried_b58 f_X0_dearestUntried_b95
    obtain ⟨e1, e2⟩ := H.2.1 i (by omega)
    obtain ⟨e3, e4⟩ := T.2.2.2.2 i (by omega)
    have e : drs a t (i + 1) = if ¬ t.testBit i = true ∧ (a (12 + 5 * i) = 0 ∧ sfl a ≤ a (11 + 5 * i)) ∧ (drs a t i).2 < a (13 + 5 * i) then ((i : Int), a (13 + 5 * i)) else drs a t i := rfl
    rw [cr417_7 I, cg_1 I, t0, hN, if_neg (by omega), bit_n ht (by omega)]
    simp only [flet_eq]
    rw [w32_of (z := (i : Int) + 1) (by omega) (by omega), zs]
    rw [e] at hr
    by_cases h1 : t.testBit i = true
    · rw [if_pos h1, if_neg (by decide), if_pos trivial]
      rw [if_neg (fun z => z.1 h1)] at hr
      exact hr
    · rw [if_neg h1, if_pos rfl, crh_0 I iH14, alh_1 I iH14 (by omega) (by omega), toNat_z, e1]
      by_cases h2 : a (12 + 5 * i) = 0
      · rw [if_pos h2, crh_1 I iH14, alh_2 I iH14 (by omega) (by omega), toNat_z, e2, cv_h I iH14, c_saleFloor I iH14 H, fcall_some]
        by_cases h3 : a (11 + 5 * i) < sfl a
        · rw [if_pos h3, if_pos trivial]
          rw [if_neg (fun z => by have := z.2.1.2; omega)] at hr
          exact hr
        · rw [if_neg h3, if_neg (by decide), cr417_7 I, cr1_2 I, al_2 I (by omega) (by omega), toNat_z, show C 2 i = a (13 + 5 * i) from e3]
          by_cases h4 : a (13 + 5 * i) ≤ (drs a t i).2
          · rw [if_pos h4]
            rw [if_neg (fun z => by have := z.2.2; omega)] at hr
            exact hr
          · rw [if_neg h4, cr417_7 I, cr1_2 I, al_2 I (by omega) (by omega), toNat_z, show C 2 i = a (13 + 5 * i) from e3]
            rw [if_pos ⟨h1, ⟨h2, by omega⟩, by omega⟩] at hr
            exact hr
      · rw [if_neg h2, if_pos trivial]
        rw [if_neg (fun z => h2 z.2.1.1)] at hr
        exact hr
  · intro r
    show f_X0_dearestUntried_b8B r _ _ _ _ _ _ _ = _
    unfold f_X0_dearestUntried_b8B
    rw [cr417_7 I, cg_1 I, t0, hN, if_pos (by omega)]
theorem due_b (d : Nat → Int) (t : Int) (s n : Nat) : 0 ≤ due d t s n ∧ due d t s n ≤ (n : Int) := by
  have := sm_b (c := 1) (g := fun l => if s.testBit l = true ∧ d l ≤ t then (1 : Int) else 0) n (fun i _ => by
    show 0 ≤ (if s.testBit i = true ∧ d i ≤ t then (1 : Int) else 0) ∧ (if s.testBit i = true ∧ d i ≤ t then (1 : Int) else 0) ≤ 1
    split <;> omega)
  unfold due
  omega
theorem c_canK (I : CI x S C) (T : Td a C 1) (H : Hs a C 14) (W : Wf a) {N : Nat} (hN : a 0 = (N : Int)) {s k : Nat} (hs : s < 2147483648) (hk : k ≤ 12) : f_X0_canBeKept ((x + 417 : Nat) : Int) ((x + 14 : Nat) : Int) (s : Int) (k : Int) (cS x S C) = some (bb (okK (kd a) (k : Int) s N 6), cS x S C) := by
  have w0 := W.1.1
  have t0 := T.1
  have sb := sfl_b W.1
  unfold f_X0_canBeKept f_X0_canBeKept_b3
  refine lpe (fun (r : Int → Int → Int → Int → Int → fK) i (_ : Unit) => r ((x + 417 : Nat) : Int) ((x + 14 : Nat) : Int) (s : Int) (k : Int) ((i + 1 : Nat) : Int) (cS x S C)) (fun i _ => okK (kd a) (k : Int) s N i) (fun r => r = some (bb (okK (kd a) (k : Int) s N 6), cS x S C)) (N := 6) ?_ ?_ jN 0 () (by omega) (by unfold jN; omega) (fun t ht => by omega)
  · intro r i _ hi hinv ih
    show f_X0_canBeKept_b3B r _ _ _ _ _ _ = _
    unfold f_X0_canBeKept_b3B
    rw [if_neg (by omega)]
    unfold f_X0_canBeKept_b16
    refine lp (fun (q : Int → Int → Int → Int → Int → Int → Int → fK) j => q ((x + 417 : Nat) : Int) ((x + 14 : Nat) : Int) (s : Int) (k : Int) ((i + 1 : Nat) : Int) (due (kd a) ((i : Int) + 1) s j) (j : Int) (cS x S C)) (N := N) ?_ ?_ jN 0 (by omega) (by unfold jN; omega)
    · intro q j hj hq
      show f_X0_canBeKept_b16B r q _ _ _ _ _ _ _ _ = _
      unfold f_X0_canBeKept_b16B f_X0_canBeKept_b59
      obtain ⟨e1, e2⟩ := H.2.1 j (by omega)
      have wl := (W.2.1 j (by omega)).1
      have db := due_b (kd a) ((i : Int) + 1) s j
      have e : due (kd a) ((i : Int) + 1) s (j + 1) = due (kd a) ((i : Int) + 1) s j + (if s.testBit j = true ∧ kd a j ≤ (i : Int) + 1 then 1 else 0) := rfl
      have ek : kd a j = a (11 + 5 * j) - sfl a + 1 := rfl
      rw [cr417_7 I, cg_1 I, t0, hN, if_neg (by omega), bit_n hs (by omega)]
      simp only [flet_eq]
      rw [w32_of (z := (j : Int) + 1) (by omega) (by omega), zs j, w32_of (z := due (kd a) ((i : Int) + 1) s j + 1) (by omega) (by omega)]
      rw [e] at hq
      by_cases h1 : s.testBit j = true
      · rw [if_pos h1, if_neg (by decide), crh_1 I iH14, alh_2 I iH14 (by omega) (by omega), toNat_z, e2, cv_h I iH14, c_saleFloor I iH14 H, fcall_some, w32_of (z := a (11 + 5 * j) - sfl a) (by omega) (by omega), w32_of (by omega) (by omega)]
        by_cases h2 : ((i + 1 : Nat) : Int) < a (11 + 5 * j) - sfl a + 1
        · rw [if_pos h2]
          rw [if_neg (fun z => by have := z.2; omega), Int.add_zero] at hq
          exact hq
        · rw [if_neg h2]
          rw [if_pos ⟨h1, by omega⟩] at hq
          exact hq
      · rw [if_neg h1, if_pos rfl]
        rw [if_neg (fun z => h1 z.1), Int.add_zero] at hq
        exact hq
    · intro q
      show f_X0_canBeKept_b16B r q _ _ _ _ _ _ _ _ = _
      unfold f_X0_canBeKept_b16B
      have mb : 0 ≤ (k : Int) * ((i + 1 : Nat) : Int) ∧ (k : Int) * ((i + 1 : Nat) : Int) ≤ 12 * 6 := ⟨Int.mul_nonneg (by omega) (by omega), Int.mul_le_mul (by omega) (by omega) (by omega) (by omega)⟩
      rw [cr417_7 I, cg_1 I, t0, hN, if_pos (by omega), w32_of (z := (k : Int) * ((i + 1 : Nat) : Int)) (by omega) (by omega), flet_eq, w32_of (by omega) (by omega), zs (i + 1)]
      have ei : ((i + 1 : Nat) : Int) = (i : Int) + 1 := by omega
      by_cases h1 : due (kd a) ((i : Int) + 1) s N ≤ (k : Int) * ((i + 1 : Nat) : Int)
      · rw [if_pos h1]
        refine ih () (fun t ht => ?_)
        by_cases hti : t = i
        · subst hti
          rw [ei] at h1
          exact h1
        · exact hinv t (by omega)
      · rw [if_neg h1, bb_f (fun z => h1 (by rw [ei]; exact z i hi))]
  · intro r _ hinv
    show f_X0_canBeKept_b3B r _ _ _ _ _ _ = _
    unfold f_X0_canBeKept_b3B
    rw [if_pos (by omega), bb_t hinv]
/-- the best set that can be kept -/
def KB (a : Nat → Int) (k : Int) (N G : Nat) : Prop := (∀ l, G.testBit l = true → l < N ∧ kok a l) ∧ okK (kd a) k G N 6 ∧ ∀ S : Nat, (∀ l, S.testBit l = true → l < N ∧ kok a l) → okK (kd a) k S N 6 → ssm (kv a) S N ≤ ssm (kv a) G N
theorem lt_of_bits {s N : Nat} (h : ∀ l, s.testBit l = true → l < N) : s < 2 ^ N := by
  apply Nat.lt_pow_two_of_testBit
  intro i hi
  exact Bool.eq_false_iff.mpr (fun z => by have := h i z; omega)
theorem ssm_full {t n : Nat} (h : (n : Int) ≤ ssm (fun _ => 1) t n) {l : Nat} (hl : l < n) : t.testBit l = true := Decidable.byContradiction (fun z => by
  have h1 := ssm_or (fun _ => 1) hl z
  have h2 := (ssm_b (w := fun _ => 1) (c := 1) (t ||| 2 ^ l) n (by omega) (fun _ _ => by omega)).2
  omega)
theorem c_bestKept (I : CI x S C) (T : Td a C 1) (H : Hs a C 14) (W : Wf a) {N : Nat} (hN : a 0 = (N : Int)) {k : Nat} (hk : k ≤ 12) : ∃ G : Nat, f_X0_bestKept ((x + 417 : Nat) : Int) ((x + 14 : Nat) : Int) (k : Int) (cS x S C) = some ((G : Int), cS x S C) ∧ KB a (k : Int) N G := by
  have w0 := W.1.1
  have t0 := T.1
  unfold f_X0_bestKept f_X0_bestKept_b8
  refine lpe (fun (r : Int → Int → Int → Int → Int → Int → fK) i (p : Nat × Nat) => r ((x + 417 : Nat) : Int) ((x + 14 : Nat) : Int) (k : Int) (p.1 : Int) (p.2 : Int) (i : Int) (cS x S C)) (fun i p => GI N (kd a) (kv a) (kok a) (k : Int) p.1 p.2 ∧ (i : Int) ≤ ssm (fun _ => 1) p.2 N) (fun r => ∃ G : Nat, r = some ((G : Int), cS x S C) ∧ KB a (k : Int) N G) (N := N) ?_ ?_ jN 0 (0, 0) (by omega) (by unfold jN; omega) ⟨GI_0 (by omega) (fun l h => kok_d h), by rw [ssm_0]; exact Int.le_refl _⟩
  · intro r i p hi hinv ih
    obtain ⟨g, hc⟩ := hinv
    show ∃ G : Nat, f_X0_bestKept_b8B r _ _ _ _ _ _ _ = _ ∧ _
    unfold f_X0_bestKept_b8B f_X0_bestKept_b68
    have N12 : 2 ^ N ≤ 4096 := Nat.pow_le_pow_right (n := 2) (by decide) (show N ≤ 12 by omega)
    have l1 : p.1 < 2 ^ N := lt_of_bits (fun l hl => (g.2.1 l (g.1 l hl)).1)
    have l2 : p.2 < 2 ^ N := lt_of_bits (fun l hl => (g.2.1 l hl).1)
    rw [cr417_7 I, cg_1 I, t0, hN, if_neg (by omega), c_v I (i := 417) (by decide) rfl, c_dearestU I T H W hN (by omega), fcall_some]
    rcases drs_p a p.2 N with ⟨d1, d2, d3⟩ | ⟨m, d0, d1, d2, d3, d4, d5, d6⟩
    · rw [if_pos d1]
      refine ⟨p.1, rfl, fun l hl => ⟨(g.2.1 l (g.1 l hl)).1, (g.2.1 l (g.1 l hl)).2.1⟩, g.2.2.1, fun S hS hK => GI_end g (fun l hl h1 h2 => ?_) hS hK⟩
      have := d3 l hl h1 h2
      have pp : (0 : Int) ≤ ((2 ^ l : Nat) : Int) := Int.natCast_nonneg _
      unfold kv
      omega
    · have pm := pw12 (l := m) (by omega)
      have lm : 2 ^ m < 2 ^ N := Nat.pow_lt_pow_right (by decide) d0
      have vm : 0 ≤ kv a m := by unfold kv; omega
      have o1 : p.1 ||| 2 ^ m < 2 ^ N := Nat.or_lt_two_pow l1 lm
      have o2 : p.2 ||| 2 ^ m < 2 ^ N := Nat.or_lt_two_pow l2 lm
      have mx : ∀ l, l < N → kok a l → ¬ p.2.testBit l = true → 0 ≤ kv a l → kv a l ≤ kv a m := fun l hl h1 h2 _ => by
        have pl := pw12 (l := l) (by omega)
        have pp : (0 : Int) ≤ ((2 ^ l : Nat) : Int) := Int.natCast_nonneg _
        unfold kv
        rcases d6 l hl h1 h2 with h3 | ⟨h3, h4⟩
        · omega
        · have : 2 ^ m ≤ 2 ^ l := Nat.pow_le_pow_right (by decide) h4
          omega
      have cn : ((i + 1 : Nat) : Int) ≤ ssm (fun _ => 1) (p.2 ||| 2 ^ m) N := by
        rw [ssm_or _ d0 d5]
        omega
      rw [d1, if_neg (by omega), flet_eq, ishl_n (by omega), ior_n (by omega) (by omega), ior_n (by omega) (by omega), c_v I (i := 417) (by decide) rfl, c_canK I T H W hN (by omega) hk, fcall_some]
      simp only [flet_eq]
      rw [w32_of (z := (i : Int) + 1) (by omega) (by omega), zs]
      by_cases hb : bb (okK (kd a) (k : Int) (p.1 ||| 2 ^ m) N 6) = 0
      · rw [if_pos hb]
        exact ih (p.1, p.2 ||| 2 ^ m) ⟨GI_step g (fun l h => kok_d h) d0 d4 vm d5 mx (Or.inr ⟨bb_0.mp hb, rfl⟩), cn⟩
      · rw [if_neg hb]
        exact ih (p.1 ||| 2 ^ m, p.2 ||| 2 ^ m) ⟨GI_step g (fun l h => kok_d h) d0 d4 vm d5 mx (Or.inl ⟨of_bb hb, rfl⟩), cn⟩
  · intro r p hinv
    obtain ⟨g, hc⟩ := hinv
    show ∃ G : Nat, f_X0_bestKept_b8B r _ _ _ _ _ _ _ = _ ∧ _
    unfold f_X0_bestKept_b8B
    rw [cr417_7 I, cg_1 I, t0, hN, if_pos (by omega)]
    exact ⟨p.1, rfl, fun l hl => ⟨(g.2.1 l (g.1 l hl)).1, (g.2.1 l (g.1 l hl)).2.1⟩, g.2.2.1, fun S hS hK => GI_end g (fun l hl h1 h2 => absurd (ssm_full hc hl) h2) hS hK⟩
end KC
