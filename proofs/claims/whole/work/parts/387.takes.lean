-- the offers: takes
section OF
variable {x : Nat}
def tnv : Nat → Int
  | 0 => 1
  | k + 1 => w64 (tnv k * 10)
def tkv (p : Nat → Int) : Nat → Int
  | 0 => 0
  | k + 1 => w32 (tkv p k + p k)
def miv (p : Nat → Int) (u b : Int) : Nat → Int
  | 0 => 0
  | k + 1 => w64 (miv p u b k + w64 (p k * imax (w64 (w64 (10 * (k : Int)) * u)) b))
def mov (p : Nat → Int) : Nat → Int
  | 0 => 0
  | k + 1 => miv p (tnv k) (mov p k) 6
theorem c_unit (n : Nat) (hn : n ≤ 6) (S : jSt) : f_X3_unitOf (n : Int) S = some (tnv n, S) := by
  unfold f_X3_unitOf f_X3_unitOf_b4
  refine lp (fun (r : Int → Int → Int → fK) i => r (n : Int) (tnv i) (i : Int) S) (N := n) ?_ ?_ jN 0 (by omega) (by unfold jN; omega)
  · intro r i hi hr
    show f_X3_unitOf_b4B r _ _ _ _ = _
    unfold f_X3_unitOf_b4B
    rw [if_neg (by omega), flet_eq, flet_eq, w32_of (by omega) (by omega), zs]
    exact hr
  · intro r
    show f_X3_unitOf_b4B r _ _ _ _ = _
    unfold f_X3_unitOf_b4B
    rw [if_pos (by omega)]
theorem s_tens (n : Nat) (hn : n ≤ 6) (S : jSt) : f_X12_tens (n : Int) S = some (tnv n, S) := by
  unfold f_X12_tens f_X12_tens_b4
  refine lp (fun (r : Int → Int → Int → fK) i => r (n : Int) (tnv i) (i : Int) S) (N := n) ?_ ?_ jN 0 (by omega) (by unfold jN; omega)
  · intro r i hi hr
    show f_X12_tens_b4B r _ _ _ _ = _
    unfold f_X12_tens_b4B
    rw [if_neg (by omega), flet_eq, flet_eq, w32_of (by omega) (by omega), zs]
    exact hr
  · intro r
    show f_X12_tens_b4B r _ _ _ _ = _
    unfold f_X12_tens_b4B
    rw [if_pos (by omega)]
def odd (a : Nat → Int) (k : Nat) : Int := a (147 + k)
theorem c_whole {S : jSt} {C : Nat → Nat → Int} {a : Nat → Int} (I : CI x S C) (X : TdX a C 1) : f_X3_areWhole ((x + 12 : Nat) : Int) (cS x S C) = some (b01 (tkv (odd a) 6 = 10), cS x S C) := by
  unfold f_X3_areWhole f_X3_areWhole_b4
  refine lp (fun (r : Int → Int → Int → fK) i => r ((x + 12 : Nat) : Int) (tkv (odd a) i) (i : Int) (cS x S C)) (N := 6) ?_ ?_ jN 0 (by omega) (by unfold jN; omega)
  · intro r i hi hr
    show f_X3_areWhole_b4B r _ _ _ _ = _
    unfold f_X3_areWhole_b4B
    have e : C 13 i = odd a i := X.2.2.2.2 i hi
    rw [if_neg (by omega), cr12_0' I, al_13 I (by omega) (by omega), toNat_z, e, flet_eq, flet_eq, w32_of (z := (i : Int) + 1) (by omega) (by omega), zs]
    exact hr
  · intro r
    show f_X3_areWhole_b4B r _ _ _ _ = _
    unfold f_X3_areWhole_b4B f_X3_areWhole_b36 b01
    rw [if_pos (by omega)]
    by_cases h : tkv (odd a) 6 = 10
    · rw [if_pos h, if_pos h]
    · rw [if_neg h, if_neg h]
theorem s_isTen {m : Nat} {S : jSt} {F : Nat → Nat → Int} (R : RI m S F) : f_X12_isTen (m : Int) (rS m S F) = some (b01 (tkv (odd (F 1)) 6 = 10), rS m S F) := by
  unfold f_X12_isTen f_X12_isTen_b4
  refine lp (fun (r : Int → Int → Int → fK) i => r (m : Int) (tkv (odd (F 1)) i) (i : Int) (rS m S F)) (N := 6) ?_ ?_ jN 0 (by omega) (by unfold jN; omega)
  · intro r i hi hr
    show f_X12_isTen_b4B r _ _ _ _ = _
    unfold f_X12_isTen_b4B
    rw [if_neg (by omega), r_a R, w32_of (z := 147 + (i : Int)) (by omega) (by omega), r_al R (by omega) (by omega), show (147 + (i : Int)).toNat = 147 + i by omega, flet_eq, flet_eq, w32_of (z := (i : Int) + 1) (by omega) (by omega), zs]
    exact hr
  · intro r
    show f_X12_isTen_b4B r _ _ _ _ = _
    unfold f_X12_isTen_b4B f_X12_isTen_b40 b01
    rw [if_pos (by omega)]
    by_cases h : tkv (odd (F 1)) 6 = 10
    · rw [if_pos h, if_pos h]
    · rw [if_neg h, if_neg h]
theorem c_mean {S : jSt} {C : Nat → Nat → Int} {a : Nat → Int} (I : CI x S C) (X : TdX a C 1) {n : Nat} (hn : n ≤ 6) : f_X3_meanOf ((x + 12 : Nat) : Int) (n : Int) (cS x S C) = some (mov (odd a) n, cS x S C) := by
  unfold f_X3_meanOf f_X3_meanOf_b5
  refine lp (fun (r : Int → Int → Int → Int → fK) i => r ((x + 12 : Nat) : Int) (n : Int) (mov (odd a) i) (i : Int) (cS x S C)) (N := n) ?_ ?_ jN 0 (by omega) (by unfold jN; omega)
  · intro r i hi hr
    show f_X3_meanOf_b5B r _ _ _ _ _ = _
    unfold f_X3_meanOf_b5B f_X3_meanOf_b17
    rw [if_neg (by omega)]
    refine lp (fun (q : Int → Int → Int → Int → Int → Int → fK) j => q ((x + 12 : Nat) : Int) (n : Int) (mov (odd a) i) (i : Int) (miv (odd a) (tnv i) (mov (odd a) i) j) (j : Int) (cS x S C)) (N := 6) ?_ ?_ jN 0 (by omega) (by unfold jN; omega)
    · intro q j hj hq
      show f_X3_meanOf_b17B r q _ _ _ _ _ _ _ = _
      unfold f_X3_meanOf_b17B
      have e : C 13 j = odd a j := X.2.2.2.2 j hj
      rw [if_neg (by omega), cr12_0' I, al_13 I (by omega) (by omega), toNat_z, e, c_unit i (by omega), fcall_some, flet_eq, flet_eq, w32_of (z := (j : Int) + 1) (by omega) (by omega), zs]
      exact hq
    · intro q
      show f_X3_meanOf_b17B r q _ _ _ _ _ _ _ = _
      unfold f_X3_meanOf_b17B
      rw [if_pos (by omega), flet_eq, w32_of (z := (i : Int) + 1) (by omega) (by omega), zs]
      exact hr
  · intro r
    show f_X3_meanOf_b5B r _ _ _ _ _ = _
    unfold f_X3_meanOf_b5B
    rw [if_pos (by omega)]
theorem s_mean {m : Nat} {S : jSt} {F : Nat → Nat → Int} (R : RI m S F) {n : Nat} (hn : n ≤ 6) : f_X12_meanOf (m : Int) (n : Int) (rS m S F) = some (mov (odd (F 1)) n, rS m S F) := by
  unfold f_X12_meanOf f_X12_meanOf_b5
  refine lp (fun (r : Int → Int → Int → Int → fK) i => r (m : Int) (n : Int) (mov (odd (F 1)) i) (i : Int) (rS m S F)) (N := n) ?_ ?_ jN 0 (by omega) (by unfold jN; omega)
  · intro r i hi hr
    show f_X12_meanOf_b5B r _ _ _ _ _ = _
    unfold f_X12_meanOf_b5B f_X12_meanOf_b17
    rw [if_neg (by omega)]
    refine lp (fun (q : Int → Int → Int → Int → Int → Int → fK) j => q (m : Int) (n : Int) (mov (odd (F 1)) i) (i : Int) (miv (odd (F 1)) (tnv i) (mov (odd (F 1)) i) j) (j : Int) (rS m S F)) (N := 6) ?_ ?_ jN 0 (by omega) (by unfold jN; omega)
    · intro q j hj hq
      show f_X12_meanOf_b17B r q _ _ _ _ _ _ _ = _
      unfold f_X12_meanOf_b17B f_X12_meanOf_b66
      have e : miv (odd (F 1)) (tnv i) (mov (odd (F 1)) i) (j + 1) = w64 (miv (odd (F 1)) (tnv i) (mov (odd (F 1)) i) j + w64 (F 1 (147 + j) * imax (w64 (w64 (10 * (j : Int)) * tnv i)) (mov (odd (F 1)) i))) := rfl
      rw [if_neg (by omega), s_tens i (by omega), fcall_some]
      simp only [flet_eq]
      rw [r_a R, w32_of (z := 147 + (j : Int)) (by omega) (by omega), r_al R (by omega) (by omega), show (147 + (j : Int)).toNat = 147 + j by omega, w32_of (z := (j : Int) + 1) (by omega) (by omega), zs]
      rw [e] at hq
      unfold imax at hq
      by_cases h : w64 (w64 (10 * (j : Int)) * tnv i) ≤ mov (odd (F 1)) i
      · rw [if_pos h]
        rw [show (if w64 (w64 (10 * (j : Int)) * tnv i) < mov (odd (F 1)) i then mov (odd (F 1)) i else w64 (w64 (10 * (j : Int)) * tnv i)) = mov (odd (F 1)) i from by split <;> omega] at hq
        exact hq
      · rw [if_neg h]
        rw [show (if w64 (w64 (10 * (j : Int)) * tnv i) < mov (odd (F 1)) i then mov (odd (F 1)) i else w64 (w64 (10 * (j : Int)) * tnv i)) = w64 (w64 (10 * (j : Int)) * tnv i) from by split <;> omega] at hq
        exact hq
    · intro q
      show f_X12_meanOf_b17B r q _ _ _ _ _ _ _ = _
      unfold f_X12_meanOf_b17B
      rw [if_pos (by omega), flet_eq, w32_of (z := (i : Int) + 1) (by omega) (by omega), zs]
      exact hr
  · intro r
    show f_X12_meanOf_b5B r _ _ _ _ _ = _
    unfold f_X12_meanOf_b5B
    rw [if_pos (by omega)]
theorem g_takes (n z : Int) : Good x (f_X11_takes (x : Int) n z) (f_X12_takes ((x + 426 : Nat) : Int) n z) := Good_q (fun Z C F V h H => by
  have I := H.1
  have X := h.2.1.2.1
  unfold f_X11_takes f_X11_takes_b32 f_X11_takes_b65 f_X12_takes f_X12_takes_b26 f_X12_takes_b53
  by_cases h1 : 0 ≤ n ∧ n ≤ 6
  · obtain ⟨k, rfl⟩ : ∃ k : Nat, n = (k : Int) := ⟨n.toNat, by omega⟩
    by_cases h2 : 0 ≤ z ∧ z ≤ 5
    · by_cases h3 : tkv (odd (F 1)) 6 = 10
      · refine ⟨if w64 (w64 (10 * z) * tnv k) < mov (odd (F 1)) k then 0 else 1, ?_, fun S2 hS R2 => ?_⟩
        · rw [s_within, fcall_some, if_b01, if_pos h1, s_within, fcall_some, if_b01, if_pos h2, cr0_0 I, cr1_15 I, c_v I (i := 12) (by decide) rfl, c_whole I X, fcall_some, if_b01, if_pos h3, c_unit k (by omega), fcall_some, cr0_0 I, cr1_15 I, c_v I (i := 12) (by decide) rfl, c_mean I X (by omega), fcall_some]
          split <;> rfl
        · have R := R2.1
          rw [s_isIn, fcall_some, if_b01, if_pos h1, s_isIn, fcall_some, if_b01, if_pos h2, r_cv R, s_isTen R, fcall_some, if_b01, if_pos h3, s_tens k (by omega), fcall_some, r_cv R, s_mean R (by omega), fcall_some]
          split <;> rfl
      · refine ⟨-1, ?_, fun S2 hS R2 => ?_⟩
        · rw [s_within, fcall_some, if_b01, if_pos h1, s_within, fcall_some, if_b01, if_pos h2, cr0_0 I, cr1_15 I, c_v I (i := 12) (by decide) rfl, c_whole I X, fcall_some, if_b01, if_neg h3]
        · have R := R2.1
          rw [s_isIn, fcall_some, if_b01, if_pos h1, s_isIn, fcall_some, if_b01, if_pos h2, r_cv R, s_isTen R, fcall_some, if_b01, if_neg h3]
    · refine ⟨-1, ?_, fun S2 hS R2 => ?_⟩
      · rw [s_within, fcall_some, if_b01, if_pos h1, s_within, fcall_some, if_b01, if_neg h2]
      · rw [s_isIn, fcall_some, if_b01, if_pos h1, s_isIn, fcall_some, if_b01, if_neg h2]
  · refine ⟨-1, ?_, fun S2 hS R2 => ?_⟩
    · rw [s_within, fcall_some, if_b01, if_neg h1]
    · rw [s_isIn, fcall_some, if_b01, if_neg h1])
end OF
