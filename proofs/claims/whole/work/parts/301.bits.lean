-- sets as numbers
theorem z_l : ∀ n, n < 32 → ((nI n &&& 31).toBitVec.smod 32).toNat = n := by decide
theorem ofN (n : Nat) : Int32.ofInt (n : Int) = nI n := Int32.ofInt_eq_ofNat
theorem toN {n : Nat} (h : n < 2147483648) : (nI n).toInt = (n : Int) := nI_toInt (by omega)
theorem nI_and (a b : Nat) : nI a &&& nI b = nI (a &&& b) := by
  apply Int32.toBitVec_inj.mp
  show (BitVec.ofNat 32 a &&& BitVec.ofNat 32 b) = BitVec.ofNat 32 (a &&& b)
  exact (BitVec.ofNat_and).symm
theorem nI_or (a b : Nat) : nI a ||| nI b = nI (a ||| b) := by
  apply Int32.toBitVec_inj.mp
  show (BitVec.ofNat 32 a ||| BitVec.ofNat 32 b) = BitVec.ofNat 32 (a ||| b)
  exact (BitVec.ofNat_or).symm
theorem nI_xor (a b : Nat) : nI a ^^^ nI b = nI (a ^^^ b) := by
  apply Int32.toBitVec_inj.mp
  show (BitVec.ofNat 32 a ^^^ BitVec.ofNat 32 b) = BitVec.ofNat 32 (a ^^^ b)
  exact (BitVec.ofNat_xor).symm
theorem lt31 : (2147483648 : Nat) = 2 ^ 31 := by decide
theorem iand_n {a b : Nat} (ha : a < 2147483648) : iand32 (a : Int) (b : Int) = ((a &&& b : Nat) : Int) := by
  unfold iand32
  rw [ofN, ofN, nI_and, toN]
  exact Nat.lt_of_le_of_lt Nat.and_le_left ha
theorem ior_n {a b : Nat} (ha : a < 2147483648) (hb : b < 2147483648) : ior32 (a : Int) (b : Int) = ((a ||| b : Nat) : Int) := by
  unfold ior32
  rw [ofN, ofN, nI_or, toN]
  rw [lt31] at *
  exact Nat.or_lt_two_pow ha hb
theorem ixor_n {a b : Nat} (ha : a < 2147483648) (hb : b < 2147483648) : ixor32 (a : Int) (b : Int) = ((a ^^^ b : Nat) : Int) := by
  unfold ixor32
  rw [ofN, ofN, nI_xor, toN]
  rw [lt31] at *
  exact Nat.xor_lt_two_pow ha hb
theorem ishr_n {a k : Nat} (ha : a < 2147483648) (hk : k < 32) : ishr32 (a : Int) (k : Int) = ((a / 2 ^ k : Nat) : Int) := by
  unfold ishr32
  rw [ofN, ofN, pk_shrN (by omega) _ k (z_l k hk), toN]
  exact Nat.lt_of_le_of_lt (Nat.div_le_self _ _) ha
theorem ishl_n {k : Nat} (hk : k < 31) : ishl32 1 (k : Int) = ((2 ^ k : Nat) : Int) := by
  have h2 : 2 ^ k < 2147483648 := by
    rw [lt31]
    exact Nat.pow_lt_pow_right (by decide) hk
  unfold ishl32
  rw [show (1 : Int) = ((1 : Nat) : Int) from rfl, ofN, ofN, pk_shlN _ k (z_l k (by omega)) (by omega), Nat.one_mul, toN h2]
theorem bit_n {a k : Nat} (ha : a < 2147483648) (hk : k < 32) : iand32 (ishr32 (a : Int) (k : Int)) 1 = if a.testBit k then 1 else 0 := by
  rw [ishr_n ha hk, show (1 : Int) = ((1 : Nat) : Int) from rfl, iand_n (Nat.lt_of_le_of_lt (Nat.div_le_self _ _) ha), Nat.and_one_is_mod]
  rw [Nat.testBit_eq_decide_div_mod_eq]
  have h2 : a / 2 ^ k % 2 = 0 ∨ a / 2 ^ k % 2 = 1 := by omega
  rcases h2 with h | h <;> simp [h]
/-- the set of those below n that p takes -/
def mk (p : Nat → Bool) : Nat → Nat
  | 0 => 0
  | n + 1 => mk p n ||| (if p n then 2 ^ n else 0)
theorem mk_bit (p : Nat → Bool) : ∀ n i, (mk p n).testBit i = (decide (i < n) && p i)
  | 0, i => by simp [mk]
  | n + 1, i => by
    rw [mk, Nat.testBit_or, mk_bit p n i]
    by_cases hp : p n
    · rw [if_pos hp, Nat.testBit_two_pow]
      by_cases h : n = i
      · subst h; simp [hp]
      · have : (i < n + 1) = (i < n) := by apply propext; omega
        simp [h, this]
    · rw [if_neg hp]
      by_cases h : i = n
      · subst h; simp [hp]
      · have : (i < n + 1) = (i < n) := by apply propext; omega
        simp [this]
theorem mk_lt (p : Nat → Bool) (n : Nat) : mk p n < 2 ^ n := by
  apply Nat.lt_pow_two_of_testBit
  intro i hi
  rw [mk_bit]
  simp
  omega
theorem mk_congr {p q : Nat → Bool} : ∀ {n : Nat}, (∀ i, i < n → p i = q i) → mk p n = mk q n
  | 0, _ => rfl
  | n + 1, h => by rw [mk, mk, mk_congr (fun i hi => h i (by omega)), h n (by omega)]
theorem mk_31 (p : Nat → Bool) {n : Nat} (h : n ≤ 31) : mk p n < 2147483648 := by
  rw [lt31]
  exact Nat.lt_of_lt_of_le (mk_lt p n) (Nat.pow_le_pow_right (by decide) h)
/-- one more place, as the code does it -/
theorem mk_step (p : Nat → Bool) {n : Nat} (h : n < 31) (c : Int) (hc : c = if p n then ((2 ^ n : Nat) : Int) else 0) : ior32 ((mk p n : Nat) : Int) c = ((mk p (n + 1) : Nat) : Int) := by
  rw [hc]
  have h2 : 2 ^ n < 2147483648 := by
    rw [lt31]
    exact Nat.pow_lt_pow_right (by decide) h
  by_cases hp : p n
  · rw [if_pos hp, ior_n (mk_31 p (by omega)) h2]
    show _ = ((mk p n ||| (if p n then 2 ^ n else 0) : Nat) : Int)
    rw [if_pos hp]
  · rw [if_neg hp, show (0 : Int) = ((0 : Nat) : Int) from rfl, ior_n (mk_31 p (by omega)) (by omega)]
    show _ = ((mk p n ||| (if p n then 2 ^ n else 0) : Nat) : Int)
    rw [if_neg hp]
