-- cut
section CU
variable {x : Nat}
def ano (v s : Nat) : Nat := (iand32 (v : Int) (ixor32 (s : Int) (-1))).toNat
theorem ano_b {v s : Nat} (hv : v < 64) : ano v s < 64 ∧ iand32 (v : Int) (ixor32 (s : Int) (-1)) = ((ano v s : Nat) : Int) := by
  have := iand_le v hv (ixor32 (s : Int) (-1))
  unfold ano
  omega
def soo (e : Nat → Nat) (s : Nat) : Nat → Int
  | 0 => 0
  | k + 1 => soo e s k + (if s.testBit k = true then ((pcf 31 (ano (e k) s) : Nat) : Int) else 0)
theorem soo_b {e : Nat → Nat} {s : Nat} : ∀ k, (∀ i, i < k → e i < 64) → 0 ≤ soo e s k ∧ soo e s k ≤ 6 * (k : Int)
  | 0, _ => by unfold soo; omega
  | k + 1, h => by
    have h1 := soo_b (e := e) (s := s) k (fun i hi => h i (by omega))
    have h2 := pc64 (ano (e k) s) (ano_b (h k (by omega))).1
    unfold soo
    split <;> omega
theorem c_soo {S : jSt} {C : Nat → Nat → Int} {a : Nat → Int} (I : CI x S C) (X : TdX a C 1) (W : stOK a) {s : Nat} (hs : s < 64) : f_X7_stairsOutOf ((x + 10 : Nat) : Int) (s : Int) (cS x S C) = some (soo (bsd a) s 6, cS x S C) := by
  unfold f_X7_stairsOutOf f_X7_stairsOutOf_b4
  refine lp (fun (r : Int → Int → Int → Int → fK) i => r ((x + 10 : Nat) : Int) (s : Int) (soo (bsd a) s i) (i : Int) (cS x S C)) (N := 6) ?_ ?_ jN 0 (by omega) (by unfold jN; omega)
  · intro r i hi hr
    show f_X7_stairsOutOf_b4B r _ _ _ _ _ = _
    unfold f_X7_stairsOutOf_b4B f_X7_stairsOutOf_b34
    obtain ⟨b1, b2⟩ := bsd_b W hi
    obtain ⟨n1, n2⟩ := ano_b (s := s) b1
    have n3 := pc64 _ n1
    have s1 := soo_b (e := bsd a) (s := s) i (fun j hj => (bsd_b W (by omega)).1)
    have e : C 11 i = ((bsd a i : Nat) : Int) := by rw [← b2]; exact X.2.2.2.1 i hi
    have nn : soo (bsd a) s (i + 1) = soo (bsd a) s i + (if s.testBit i = true then ((pcf 31 (ano (bsd a i) s) : Nat) : Int) else 0) := rfl
    rw [if_neg (by omega), bit01 hs (by omega)]
    simp only [flet_eq]
    rw [w32_of (z := (i : Int) + 1) (by omega) (by omega), zs]
    rw [nn] at hr
    by_cases h : s.testBit i = true
    · rw [if_pos h, cr10_0' I, al_11 I (by omega) (by omega), toNat_z, e, n2, bc64 _ _ n1, fcall_some, w32_of (by omega) (by omega)]
      rw [if_pos h] at hr
      exact hr
    · rw [if_neg h]
      rw [if_neg h, Int.add_zero] at hr
      exact hr
  · intro r
    show f_X7_stairsOutOf_b4B r _ _ _ _ _ = _
    unfold f_X7_stairsOutOf_b4B
    rw [if_pos (by omega)]
def mnc (e : Nat → Nat) (f g : Nat) (m : Int) : Nat → Int
  | 0 => m
  | s + 1 => if s.testBit f = true ∧ ¬ s.testBit g = true then (if mnc e f g m s ≤ soo e s 6 then mnc e f g m s else soo e s 6) else mnc e f g m s
theorem mnc_e (e : Nat → Nat) (f g : Nat) : ∀ s, mnc e f g 36 s = if mnc e f g 99 s ≤ 36 then mnc e f g 99 s else 36
  | 0 => rfl
  | s + 1 => by
    have h := mnc_e e f g s
    unfold mnc
    rw [h]
    by_cases c : s.testBit f = true ∧ ¬ s.testBit g = true
    · rw [if_pos c, if_pos c]
      (repeat' split) <;> omega
    · rw [if_neg c, if_neg c]
theorem mnc_u {e : Nat → Nat} {f g : Nat} (he : ∀ i, i < 6 → e i < 64) (hne : f ≠ g) : ∀ k, mnc e f g 99 (2 ^ f + 1 + k) ≤ 36
  | 0 => by
    have s1 := soo_b (e := e) (s := 2 ^ f) 6 he
    show (if (2 ^ f).testBit f = true ∧ ¬ (2 ^ f).testBit g = true then (if mnc e f g 99 (2 ^ f) ≤ soo e (2 ^ f) 6 then mnc e f g 99 (2 ^ f) else soo e (2 ^ f) 6) else mnc e f g 99 (2 ^ f)) ≤ 36
    rw [if_pos ⟨by rw [Nat.testBit_two_pow]; exact decide_eq_true rfl, by rw [Nat.testBit_two_pow, decide_eq_false hne]; decide⟩]
    split <;> omega
  | k + 1 => by
    have h := mnc_u he hne k
    show (if (2 ^ f + 1 + k).testBit f = true ∧ ¬ (2 ^ f + 1 + k).testBit g = true then (if mnc e f g 99 (2 ^ f + 1 + k) ≤ soo e (2 ^ f + 1 + k) 6 then mnc e f g 99 (2 ^ f + 1 + k) else soo e (2 ^ f + 1 + k) 6) else mnc e f g 99 (2 ^ f + 1 + k)) ≤ 36
    split
    · split <;> omega
    · exact h
theorem c_least {S : jSt} {C : Nat → Nat → Int} {a : Nat → Int} (I : CI x S C) (X : TdX a C 1) (W : stOK a) {f g : Nat} (hf : f < 6) (hg : g < 6) : f_X7_leastCut ((x + 10 : Nat) : Int) (f : Int) (g : Int) (cS x S C) = some (mnc (bsd a) f g 36 64, cS x S C) := by
  unfold f_X7_leastCut f_X7_leastCut_b6
  refine lp (fun (r : Int → Int → Int → Int → Int → fK) i => r ((x + 10 : Nat) : Int) (f : Int) (g : Int) (mnc (bsd a) f g 36 i) (i : Int) (cS x S C)) (N := 64) ?_ ?_ jN 0 (by omega) (by unfold jN; omega)
  · intro r i hi hr
    show f_X7_leastCut_b6B r _ _ _ _ _ _ = _
    unfold f_X7_leastCut_b6B f_X7_leastCut_b42
    have nn : mnc (bsd a) f g 36 (i + 1) = if i.testBit f = true ∧ ¬ i.testBit g = true then (if mnc (bsd a) f g 36 i ≤ soo (bsd a) i 6 then mnc (bsd a) f g 36 i else soo (bsd a) i 6) else mnc (bsd a) f g 36 i := rfl
    rw [if_neg (by omega), bit01 hi (by omega), bit01 hi (by omega)]
    simp only [flet_eq]
    rw [w32_of (z := (i : Int) + 1) (by omega) (by omega), zs]
    rw [nn] at hr
    by_cases h1 : i.testBit f = true
    · rw [if_pos h1]
      by_cases h2 : i.testBit g = true
      · rw [if_pos h2]
        rw [if_neg (fun z => z.2 h2)] at hr
        exact hr
      · rw [if_neg h2, c_v I (i := 10) (by decide) rfl, c_soo I X W hi, fcall_some]
        rw [if_pos ⟨h1, h2⟩] at hr
        unfold imin
        rw [show (if soo (bsd a) i 6 < mnc (bsd a) f g 36 i then soo (bsd a) i 6 else mnc (bsd a) f g 36 i) = if mnc (bsd a) f g 36 i ≤ soo (bsd a) i 6 then mnc (bsd a) f g 36 i else soo (bsd a) i 6 from by (repeat' split) <;> omega]
        exact hr
    · rw [if_neg h1]
      rw [if_neg (fun z => h1 z.1)] at hr
      exact hr
  · intro r
    show f_X7_leastCut_b6B r _ _ _ _ _ _ = _
    unfold f_X7_leastCut_b6B
    rw [if_pos (by omega)]
theorem s_cut27 {m : Nat} {S : jSt} {F : Nat → Nat → Int} (R : RI m S F) (W : stOK (F 1)) {f g : Nat} (hf : f < 6) (hg : g < 6) : f_X12_cut_b27 (m : Int) (f : Int) (g : Int) 99 0 (rS m S F) = some (mnc (bsd (F 1)) f g 99 64, rS m S F) := by
  unfold f_X12_cut_b27
  refine lp (fun (r : Int → Int → Int → Int → Int → fK) i => r (m : Int) (f : Int) (g : Int) (mnc (bsd (F 1)) f g 99 i) (i : Int) (rS m S F)) (N := 64) ?_ ?_ jN 0 (by omega) (by unfold jN; omega)
  · intro r i hi hr
    show f_X12_cut_b27B r _ _ _ _ _ _ = _
    unfold f_X12_cut_b27B f_X12_cut_b124
    have nn : mnc (bsd (F 1)) f g 99 (i + 1) = if i.testBit f = true ∧ ¬ i.testBit g = true then (if mnc (bsd (F 1)) f g 99 i ≤ soo (bsd (F 1)) i 6 then mnc (bsd (F 1)) f g 99 i else soo (bsd (F 1)) i 6) else mnc (bsd (F 1)) f g 99 i := rfl
    rw [if_neg (by omega), s_hasN hi (by omega), fcall_some, if_b01]
    simp only [flet_eq]
    rw [w32_of (z := (i : Int) + 1) (by omega) (by omega), zs]
    rw [nn] at hr
    by_cases h1 : i.testBit f = true
    · rw [if_pos h1, s_hasN hi (by omega), fcall_some, if_b01]
      by_cases h2 : i.testBit g = true
      · rw [if_pos h2]
        rw [if_neg (fun z => z.2 h2)] at hr
        exact hr
      · rw [if_neg h2]
        rw [if_pos ⟨h1, h2⟩] at hr
        unfold f_X12_cut_b61
        refine lp (fun (q : Int → Int → Int → Int → Int → Int → Int → fK) j => q (m : Int) (f : Int) (g : Int) (mnc (bsd (F 1)) f g 99 i) (i : Int) (soo (bsd (F 1)) i j) (j : Int) (rS m S F)) (N := 6) ?_ ?_ jN 0 (by omega) (by unfold jN; omega)
        · intro q j hj hq
          show f_X12_cut_b61B r q _ _ _ _ _ _ _ _ = _
          unfold f_X12_cut_b61B f_X12_cut_b102
          obtain ⟨b1, b2⟩ := bsd_b W hj
          obtain ⟨n1, n2⟩ := ano_b (s := i) b1
          have n3 := pc64 _ n1
          have s1 := soo_b (e := bsd (F 1)) (s := i) j (fun j hj => (bsd_b W (by omega)).1)
          have ne : soo (bsd (F 1)) i (j + 1) = soo (bsd (F 1)) i j + (if i.testBit j = true then ((pcf 31 (ano (bsd (F 1) j) i) : Nat) : Int) else 0) := rfl
          rw [if_neg (by omega), s_hasN hi (by omega), fcall_some, if_b01]
          simp only [flet_eq]
          rw [w32_of (z := (j : Int) + 1) (by omega) (by omega), zs]
          rw [ne] at hq
          by_cases h : i.testBit j = true
          · rw [if_pos h, r_a R, w32_of (z := 141 + (j : Int)) (by omega) (by omega), r_al R (by omega) (by omega), show (141 + (j : Int)).toNat = 141 + j by omega, b2, n2, s_bits (by omega), fcall_some, w32_of (by omega) (by omega)]
            rw [if_pos h] at hq
            exact hq
          · rw [if_neg h, w32_of (by omega) (by omega)]
            rw [if_neg h] at hq
            exact hq
        · intro q
          show f_X12_cut_b61B r q _ _ _ _ _ _ _ _ = _
          unfold f_X12_cut_b61B f_X12_cut_b123 f_X12_cut_b124
          rw [if_pos (by omega), flet_eq, flet_eq, w32_of (z := (i : Int) + 1) (by omega) (by omega), zs]
          by_cases h3 : mnc (bsd (F 1)) f g 99 i ≤ soo (bsd (F 1)) i 6
          · rw [if_pos h3]
            rw [if_pos h3] at hr
            exact hr
          · rw [if_neg h3]
            rw [if_neg h3] at hr
            exact hr
    · rw [if_neg h1]
      rw [if_neg (fun z => h1 z.1)] at hr
      exact hr
  · intro r
    show f_X12_cut_b27B r _ _ _ _ _ _ = _
    unfold f_X12_cut_b27B
    rw [if_pos (by omega)]
theorem g_cut (a b : Int) : Good x (f_X11_cut (x : Int) a b) (f_X12_cut ((x + 426 : Nat) : Int) a b) := Good_q (fun Z C F V h H => by
  have I := H.1
  have X := h.2.1.2.1
  have st := h.2.1.2.2.1.2.2.2.1
  unfold f_X11_cut f_X11_cut_b24 f_X12_cut f_X12_cut_b19
  by_cases hn : a ≠ b ∧ (0 ≤ a ∧ a ≤ 5) ∧ 0 ≤ b ∧ b ≤ 5
  · obtain ⟨f, rfl⟩ : ∃ k : Nat, a = (k : Int) := ⟨a.toNat, by omega⟩
    obtain ⟨g, rfl⟩ : ∃ k : Nat, b = (k : Int) := ⟨b.toNat, by omega⟩
    have hf : f < 6 := by omega
    have hg : g < 6 := by omega
    have hne : f ≠ g := by omega
    have p2 : 2 ^ f < 64 := Nat.pow_lt_pow_right (by decide) (show f < 6 from hf)
    have le := mnc_u (e := bsd (F 1)) (fun i hi => (bsd_b st hi).1) hne (64 - (2 ^ f + 1))
    rw [show 2 ^ f + 1 + (64 - (2 ^ f + 1)) = 64 by omega] at le
    refine ⟨mnc (bsd (F 1)) f g 99 64, ?_, fun S2 hS R2 => ?_⟩
    · rw [s_unlike, fcall_some, if_b01, if_pos hn, cr0_0 I, cr1_14 I, c_v I (i := 10) (by decide) rfl, c_least I X st hf hg, fcall_some, mnc_e, if_pos le]
    · rw [s_isFloor, fcall_some, if_b01, if_pos hn.2.1, s_isFloor, fcall_some, if_b01, if_pos hn.2.2, if_neg hn.1, s_cut27 R2.1 st hf hg]
  · refine ⟨-1, ?_, fun S2 hS R2 => ?_⟩
    · rw [s_unlike, fcall_some, if_b01, if_neg hn]
    · rw [s_isFloor, fcall_some, if_b01]
      by_cases h1 : 0 ≤ a ∧ a ≤ 5
      · rw [if_pos h1, s_isFloor, fcall_some, if_b01]
        by_cases h2 : 0 ≤ b ∧ b ≤ 5
        · rw [if_pos h2, if_pos (Decidable.byContradiction (fun z => hn ⟨z, h1, h2⟩))]
        · rw [if_neg h2]
      · rw [if_neg h1])
end CU
