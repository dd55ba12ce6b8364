section RX
variable {m : Nat} {S : jSt} {F : Nat → Nat → Int}
theorem ra_2 {j : Int} {f : Int → Option (Int × jSt)} (R : RI m S F) (h0 : 0 ≤ j) (h1 : j < 4903) : fald (rS m S F) ((m + 2 : Nat) : Int) j 1 f = f (F 2 j.toNat) := g_ald (by omega) R.1.2.2.1 h0 h1
theorem rt_2 {j z : Int} {f : jSt → Option (Int × jSt)} (R : RI m S F) (h0 : 0 ≤ j) (h1 : j < 4903) : fast (rS m S F) ((m + 2 : Nat) : Int) j 1 z f = f (rS m S (va_up F 2 (va_up (F 2) j.toNat z))) := g_ast (by omega) R.1.2.2.1 h0 h1
theorem ra_3 {j : Int} {f : Int → Option (Int × jSt)} (R : RI m S F) (h0 : 0 ≤ j) (h1 : j < 2820) : fald (rS m S F) ((m + 3 : Nat) : Int) j 1 f = f (F 3 j.toNat) := g_ald (by omega) R.1.2.2.2.1 h0 h1
theorem rt_3 {j z : Int} {f : jSt → Option (Int × jSt)} (R : RI m S F) (h0 : 0 ≤ j) (h1 : j < 2820) : fast (rS m S F) ((m + 3 : Nat) : Int) j 1 z f = f (rS m S (va_up F 3 (va_up (F 3) j.toNat z))) := g_ast (by omega) R.1.2.2.2.1 h0 h1
theorem ra_4 {j : Int} {f : Int → Option (Int × jSt)} (R : RI m S F) (h0 : 0 ≤ j) (h1 : j < 300) : fald (rS m S F) ((m + 4 : Nat) : Int) j 1 f = f (F 4 j.toNat) := g_ald (by omega) R.1.2.2.2.2.1 h0 h1
theorem rt_4 {j z : Int} {f : jSt → Option (Int × jSt)} (R : RI m S F) (h0 : 0 ≤ j) (h1 : j < 300) : fast (rS m S F) ((m + 4 : Nat) : Int) j 1 z f = f (rS m S (va_up F 4 (va_up (F 4) j.toNat z))) := g_ast (by omega) R.1.2.2.2.2.1 h0 h1
theorem ra_5 {j : Int} {f : Int → Option (Int × jSt)} (R : RI m S F) (h0 : 0 ≤ j) (h1 : j < 160) : fald (rS m S F) ((m + 5 : Nat) : Int) j 1 f = f (F 5 j.toNat) := g_ald (by omega) R.1.2.2.2.2.2.1 h0 h1
theorem rt_5 {j z : Int} {f : jSt → Option (Int × jSt)} (R : RI m S F) (h0 : 0 ≤ j) (h1 : j < 160) : fast (rS m S F) ((m + 5 : Nat) : Int) j 1 z f = f (rS m S (va_up F 5 (va_up (F 5) j.toNat z))) := g_ast (by omega) R.1.2.2.2.2.2.1 h0 h1
theorem ra_6 {j : Int} {f : Int → Option (Int × jSt)} (R : RI m S F) (h0 : 0 ≤ j) (h1 : j < 9) : fald (rS m S F) ((m + 6 : Nat) : Int) j 1 f = f (F 6 j.toNat) := g_ald (by omega) R.1.2.2.2.2.2.2.1 h0 h1
theorem rt_6 {j z : Int} {f : jSt → Option (Int × jSt)} (R : RI m S F) (h0 : 0 ≤ j) (h1 : j < 9) : fast (rS m S F) ((m + 6 : Nat) : Int) j 1 z f = f (rS m S (va_up F 6 (va_up (F 6) j.toNat z))) := g_ast (by omega) R.1.2.2.2.2.2.2.1 h0 h1
theorem ra_7 {j : Int} {f : Int → Option (Int × jSt)} (R : RI m S F) (h0 : 0 ≤ j) (h1 : j < 330) : fald (rS m S F) ((m + 7 : Nat) : Int) j 2 f = f (F 7 j.toNat) := g_ald (by omega) R.1.2.2.2.2.2.2.2.1 h0 h1
theorem rt_7 {j z : Int} {f : jSt → Option (Int × jSt)} (R : RI m S F) (h0 : 0 ≤ j) (h1 : j < 330) : fast (rS m S F) ((m + 7 : Nat) : Int) j 2 z f = f (rS m S (va_up F 7 (va_up (F 7) j.toNat z))) := g_ast (by omega) R.1.2.2.2.2.2.2.2.1 h0 h1
theorem ra_8 {j : Int} {f : Int → Option (Int × jSt)} (R : RI m S F) (h0 : 0 ≤ j) (h1 : j < 330) : fald (rS m S F) ((m + 8 : Nat) : Int) j 3 f = f (F 8 j.toNat) := g_ald (by omega) R.1.2.2.2.2.2.2.2.2.1 h0 h1
theorem rt_8 {j z : Int} {f : jSt → Option (Int × jSt)} (R : RI m S F) (h0 : 0 ≤ j) (h1 : j < 330) : fast (rS m S F) ((m + 8 : Nat) : Int) j 3 z f = f (rS m S (va_up F 8 (va_up (F 8) j.toNat z))) := g_ast (by omega) R.1.2.2.2.2.2.2.2.2.1 h0 h1
theorem ra_9 {j : Int} {f : Int → Option (Int × jSt)} (R : RI m S F) (h0 : 0 ≤ j) (h1 : j < 141) : fald (rS m S F) ((m + 9 : Nat) : Int) j 1 f = f (F 9 j.toNat) := g_ald (by omega) R.1.2.2.2.2.2.2.2.2.2.1 h0 h1
theorem rt_9 {j z : Int} {f : jSt → Option (Int × jSt)} (R : RI m S F) (h0 : 0 ≤ j) (h1 : j < 141) : fast (rS m S F) ((m + 9 : Nat) : Int) j 1 z f = f (rS m S (va_up F 9 (va_up (F 9) j.toNat z))) := g_ast (by omega) R.1.2.2.2.2.2.2.2.2.2.1 h0 h1
theorem ra_10 {j : Int} {f : Int → Option (Int × jSt)} (R : RI m S F) (h0 : 0 ≤ j) (h1 : j < 5) : fald (rS m S F) ((m + 10 : Nat) : Int) j 1 f = f (F 10 j.toNat) := g_ald (by omega) R.1.2.2.2.2.2.2.2.2.2.2.1 h0 h1
theorem rt_10 {j z : Int} {f : jSt → Option (Int × jSt)} (R : RI m S F) (h0 : 0 ≤ j) (h1 : j < 5) : fast (rS m S F) ((m + 10 : Nat) : Int) j 1 z f = f (rS m S (va_up F 10 (va_up (F 10) j.toNat z))) := g_ast (by omega) R.1.2.2.2.2.2.2.2.2.2.2.1 h0 h1
theorem ra_11 {j : Int} {f : Int → Option (Int × jSt)} (R : RI m S F) (h0 : 0 ≤ j) (h1 : j < 5) : fald (rS m S F) ((m + 11 : Nat) : Int) j 1 f = f (F 11 j.toNat) := g_ald (by omega) R.1.2.2.2.2.2.2.2.2.2.2.2 h0 h1
theorem rt_11 {j z : Int} {f : jSt → Option (Int × jSt)} (R : RI m S F) (h0 : 0 ≤ j) (h1 : j < 5) : fast (rS m S F) ((m + 11 : Nat) : Int) j 1 z f = f (rS m S (va_up F 11 (va_up (F 11) j.toNat z))) := g_ast (by omega) R.1.2.2.2.2.2.2.2.2.2.2.2 h0 h1
theorem rV {i : Nat} (R : RI m S F) (hi : 0 < i) (v : Nat → Int) : RI m S (va_up F i v) := RI_up R (by omega)
end RX
-- how many a set has
def pcf : Nat → Nat → Nat
  | 0, _ => 0
  | k + 1, n => n % 2 + pcf k (n / 2)
theorem and_par (a b : Nat) : (a &&& b) % 2 = if a % 2 = 1 ∧ b % 2 = 1 then 1 else 0 := by
  have h := Nat.testBit_and a b 0
  simp only [Nat.testBit_zero] at h
  have h1 : (a &&& b) % 2 = 0 ∨ (a &&& b) % 2 = 1 := by omega
  by_cases ha : a % 2 = 1 <;> by_cases hb : b % 2 = 1 <;> rcases h1 with h1 | h1 <;> simp_all
theorem pcf_0 : ∀ k, pcf k 0 = 0
  | 0 => rfl
  | k + 1 => by unfold pcf; rw [Nat.zero_div, pcf_0 k]
theorem pcf_clear : ∀ k n : Nat, n < 2 ^ k → n ≠ 0 → pcf k (n &&& (n - 1)) + 1 = pcf k n
  | 0, n, h, h0 => by rw [Nat.pow_zero] at h; omega
  | k + 1, n, h, h0 => by
    unfold pcf
    rw [and_par, Nat.and_div_two]
    by_cases ho : n % 2 = 1
    · rw [if_neg (by omega), show (n - 1) / 2 = n / 2 by omega, Nat.and_self, ho]
      omega
    · rw [if_neg (by omega), show (n - 1) / 2 = n / 2 - 1 by omega]
      have ih := pcf_clear k (n / 2) (by rw [Nat.pow_succ] at h; omega) (by omega)
      omega
theorem cnt_0 (p : Nat → Bool) : ∀ k, cnt p (k + 1) = (if p 0 then 1 else 0) + cnt (fun i => p (i + 1)) k
  | 0 => by simp [cnt]
  | k + 1 => by
    rw [cnt, cnt_0 p k]
    have e : cnt (fun i => p (i + 1)) (k + 1) = cnt (fun i => p (i + 1)) k + (if p (k + 1) then 1 else 0) := rfl
    omega
theorem cnt_congr {p q : Nat → Bool} : ∀ {n : Nat}, (∀ i, i < n → p i = q i) → cnt p n = cnt q n
  | 0, _ => rfl
  | n + 1, h => by rw [cnt, cnt, cnt_congr (fun i hi => h i (by omega)), h n (by omega)]
theorem pcf_cnt : ∀ k n : Nat, pcf k n = cnt (fun i => n.testBit i) k
  | 0, _ => rfl
  | k + 1, n => by
    rw [cnt_0]
    unfold pcf
    rw [pcf_cnt k (n / 2)]
    have e : (fun i => (n / 2).testBit i) = fun i => n.testBit (i + 1) := by
      funext i
      rw [Nat.testBit_succ]
    rw [e, Nat.testBit_zero]
    have h1 : n % 2 = 0 ∨ n % 2 = 1 := by omega
    rcases h1 with h1 | h1 <;> simp [h1]
theorem cnt_hi (p : Nat → Bool) (n : Nat) : ∀ d, (∀ i, n ≤ i → p i = false) → cnt p (n + d) = cnt p n
  | 0, _ => rfl
  | d + 1, h => by
    show cnt p (n + d) + (if p (n + d) then 1 else 0) = _
    rw [cnt_hi p n d h, h (n + d) (by omega)]
    rfl
theorem pcf_mk (p : Nat → Bool) {n k : Nat} (h : n ≤ k) : pcf k (mk p n) = cnt p n := by
  obtain ⟨d, rfl⟩ : ∃ d, k = n + d := ⟨k - n, by omega⟩
  rw [pcf_cnt, cnt_hi _ _ _ (fun i hi => by rw [mk_bit]; simp; omega)]
  exact cnt_congr (fun i hi => by rw [mk_bit]; simp [hi])
theorem pcf_le : ∀ k n : Nat, pcf k n ≤ k
  | 0, _ => Nat.le_refl _
  | k + 1, n => by
    unfold pcf
    have := pcf_le k (n / 2)
    omega
theorem s_bits {s : Nat} (hs : s < 2147483648) (S : jSt) : f_X12_bits (s : Int) S = some (((pcf 31 s : Nat) : Int), S) := by
  have key : ∀ n c s : Nat, s < 2147483648 → pcf 31 s < n → c + pcf 31 s ≤ 31 → jrep (fun _ _ _ => none) (fun r => f_X12_bits_b4B r) n (c : Int) (s : Int) S = some (((c + pcf 31 s : Nat) : Int), S) := by
    intro n
    induction n with
    | zero => intro c s _ h; omega
    | succ n ih =>
      intro c s hs hn hc
      rw [jrep_s]
      generalize jrep (fun _ _ _ => none) (fun r => f_X12_bits_b4B r) n = r at ih ⊢
      unfold f_X12_bits_b4B
      by_cases h0 : s = 0
      · subst h0
        rw [if_pos (show ((0 : Nat) : Int) = 0 from rfl), pcf_0]
        rfl
      · rw [if_neg (by omega)]
        simp only [flet_eq]
        have hcl := pcf_clear 31 s (by rw [← lt31]; exact hs) h0
        rw [w32_of (z := (c : Int) + 1) (by omega) (by omega), w32_of (z := (s : Int) - 1) (by omega) (by omega), show (s : Int) - 1 = ((s - 1 : Nat) : Int) by omega, iand_n hs, zs, ih (c + 1) (s &&& (s - 1)) (Nat.lt_of_le_of_lt Nat.and_le_left hs) (by omega) (by omega)]
        rw [show c + 1 + pcf 31 (s &&& (s - 1)) = c + pcf 31 s by omega]
  have h := key jN 0 s hs (by have := pcf_le 31 s; unfold jN; omega) (by have := pcf_le 31 s; omega)
  rw [Nat.zero_add] at h
  unfold f_X12_bits f_X12_bits_b4
  exact h
