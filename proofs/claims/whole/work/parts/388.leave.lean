-- leave
section LV
variable {x : Nat}
theorem miv_s {p : Nat → Int} {u b B : Int} (hu : 0 ≤ u ∧ 50 * u ≤ B) (hb : 0 ≤ b ∧ b ≤ B) (hB : B ≤ 100000000000) {k : Nat} (hk : k < 6) (hp : 0 ≤ p k ∧ p k ≤ 10) (h0 : 0 ≤ miv p u b k) (h1 : miv p u b k ≤ 10000000000000) : 0 ≤ miv p u b (k + 1) ∧ miv p u b (k + 1) ≤ miv p u b k + 10 * B := by
  have e : miv p u b (k + 1) = w64 (miv p u b k + w64 (p k * imax (w64 (w64 (10 * (k : Int)) * u)) b)) := rfl
  have ku : 0 ≤ 10 * (k : Int) * u ∧ 10 * (k : Int) * u ≤ B := by
    have : k = 0 ∨ k = 1 ∨ k = 2 ∨ k = 3 ∨ k = 4 ∨ k = 5 := by omega
    rcases this with rfl | rfl | rfl | rfl | rfl | rfl <;> constructor <;> omega
  obtain ⟨M, hM⟩ : ∃ M, M = imax (w64 (w64 (10 * (k : Int)) * u)) b := ⟨_, rfl⟩
  have mb : 0 ≤ M ∧ M ≤ B := by
    rw [hM, w64_of (z := 10 * (k : Int)) (by omega) (by omega), w64_of (z := 10 * (k : Int) * u) (by omega) (by omega)]
    unfold imax
    split <;> omega
  have pm : 0 ≤ p k * M := Int.mul_nonneg hp.1 mb.1
  have pm2 : p k * M ≤ 10 * B := Int.mul_le_mul hp.2 mb.2 mb.1 (by omega)
  rw [e, ← hM, w64_of (z := p k * M) (by omega) (by omega), w64_of (by omega) (by omega)]
  omega
theorem miv_6 {p : Nat → Int} {u b B : Int} (hu : 0 ≤ u ∧ 50 * u ≤ B) (hb : 0 ≤ b ∧ b ≤ B) (hB : B ≤ 100000000000) (hp : ∀ k, k < 6 → 0 ≤ p k ∧ p k ≤ 10) : 0 ≤ miv p u b 6 ∧ miv p u b 6 ≤ 60 * B := by
  have z0 : miv p u b 0 = 0 := rfl
  have h1 : 0 ≤ miv p u b 1 ∧ miv p u b 1 ≤ miv p u b 0 + 10 * B := miv_s hu hb hB (k := 0) (by omega) (hp 0 (by omega)) (by omega) (by omega)
  have h2 : 0 ≤ miv p u b 2 ∧ miv p u b 2 ≤ miv p u b 1 + 10 * B := miv_s hu hb hB (k := 1) (by omega) (hp 1 (by omega)) (by omega) (by omega)
  have h3 : 0 ≤ miv p u b 3 ∧ miv p u b 3 ≤ miv p u b 2 + 10 * B := miv_s hu hb hB (k := 2) (by omega) (hp 2 (by omega)) (by omega) (by omega)
  have h4 : 0 ≤ miv p u b 4 ∧ miv p u b 4 ≤ miv p u b 3 + 10 * B := miv_s hu hb hB (k := 3) (by omega) (hp 3 (by omega)) (by omega) (by omega)
  have h5 : 0 ≤ miv p u b 5 ∧ miv p u b 5 ≤ miv p u b 4 + 10 * B := miv_s hu hb hB (k := 4) (by omega) (hp 4 (by omega)) (by omega) (by omega)
  have h6 : 0 ≤ miv p u b 6 ∧ miv p u b 6 ≤ miv p u b 5 + 10 * B := miv_s hu hb hB (k := 5) (by omega) (hp 5 (by omega)) (by omega) (by omega)
  omega
def bnd : Nat → Int
  | 0 => 50
  | n + 1 => 60 * bnd n
theorem tnv_b : ∀ n, n ≤ 6 → 1 ≤ tnv n ∧ 50 * tnv n ≤ bnd n ∧ tnv n ≤ 1000000 := by
  have t0 : tnv 0 = 1 := rfl
  have s : ∀ k, tnv k ≤ 100000000 → 0 ≤ tnv k → tnv (k + 1) = tnv k * 10 := fun k a b => by
    show w64 (tnv k * 10) = _
    exact w64_of (by omega) (by omega)
  have s1 : tnv 1 = tnv 0 * 10 := s 0 (by omega) (by omega)
  have s2 : tnv 2 = tnv 1 * 10 := s 1 (by omega) (by omega)
  have s3 : tnv 3 = tnv 2 * 10 := s 2 (by omega) (by omega)
  have s4 : tnv 4 = tnv 3 * 10 := s 3 (by omega) (by omega)
  have s5 : tnv 5 = tnv 4 * 10 := s 4 (by omega) (by omega)
  have s6 : tnv 6 = tnv 5 * 10 := s 5 (by omega) (by omega)
  have b0 : bnd 0 = 50 := rfl
  have b1 : bnd 1 = 3000 := rfl
  have b2 : bnd 2 = 180000 := rfl
  have b3 : bnd 3 = 10800000 := rfl
  have b4 : bnd 4 = 648000000 := rfl
  have b5 : bnd 5 = 38880000000 := rfl
  have b6 : bnd 6 = 2332800000000 := rfl
  intro n hn
  have : n = 0 ∨ n = 1 ∨ n = 2 ∨ n = 3 ∨ n = 4 ∨ n = 5 ∨ n = 6 := by omega
  rcases this with rfl | rfl | rfl | rfl | rfl | rfl | rfl <;> omega
theorem bnd_m : ∀ n, n ≤ 5 → bnd n ≤ 100000000000 := by
  intro n hn
  have b0 : bnd 0 = 50 := rfl
  have b1 : bnd 1 = 3000 := rfl
  have b2 : bnd 2 = 180000 := rfl
  have b3 : bnd 3 = 10800000 := rfl
  have b4 : bnd 4 = 648000000 := rfl
  have b5 : bnd 5 = 38880000000 := rfl
  have : n = 0 ∨ n = 1 ∨ n = 2 ∨ n = 3 ∨ n = 4 ∨ n = 5 := by omega
  rcases this with rfl | rfl | rfl | rfl | rfl | rfl <;> omega
theorem mov_b {p : Nat → Int} (hp : ∀ k, k < 6 → 0 ≤ p k ∧ p k ≤ 10) : ∀ n, n ≤ 6 → 0 ≤ mov p n ∧ mov p n ≤ bnd n
  | 0, _ => by
    have b0 : bnd 0 = 50 := rfl
    have m0 : mov p 0 = 0 := rfl
    omega
  | n + 1, h => by
    have i := mov_b hp n (by omega)
    have t := tnv_b n (by omega)
    have m : mov p (n + 1) = miv p (tnv n) (mov p n) 6 := rfl
    have b : bnd (n + 1) = 60 * bnd n := rfl
    rw [m, b]
    exact miv_6 ⟨by omega, t.2.1⟩ i (bnd_m n (by omega)) hp
theorem half_m {a b : Nat} (hb : 0 < b) (h : b ≤ a) : 2 * (a % b) ≤ a := by
  have h1 := Nat.mod_add_div a b
  have h2 := Nat.mod_lt a hb
  have h3 : 1 ≤ a / b := (Nat.one_le_div_iff hb).mpr h
  have h4 : b * 1 ≤ b * (a / b) := Nat.mul_le_mul_left b h3
  omega
/-- one round -/
theorem eu_s {a b G P i : Nat} (hb : 0 < b) (hg : Nat.gcd a b = G) (h1 : i = 0 ∨ b ≤ a) (h2 : a * b * 2 ^ (i - 1) ≤ P) : Nat.gcd b (a % b) = G ∧ a % b ≤ b ∧ b * (a % b) * 2 ^ i ≤ P := by
  refine ⟨by rw [← hg, Nat.gcd_comm a b, Nat.gcd_rec b a, Nat.gcd_comm], Nat.le_of_lt (Nat.mod_lt a hb), ?_⟩
  by_cases h0 : i = 0
  · subst h0
    refine Nat.le_trans ?_ h2
    show b * (a % b) * 2 ^ 0 ≤ a * b * 2 ^ 0
    rw [Nat.pow_zero, Nat.mul_one, Nat.mul_one, Nat.mul_comm a b]
    exact Nat.mul_le_mul_left b (Nat.mod_le a b)
  · have hh := half_m hb (h1.resolve_left h0)
    refine Nat.le_trans ?_ h2
    have e : 2 ^ i = 2 * 2 ^ (i - 1) := by
      conv => lhs; rw [show i = (i - 1) + 1 by omega]
      rw [Nat.pow_succ, Nat.mul_comm]
    rw [e, ← Nat.mul_assoc, Nat.mul_assoc b, Nat.mul_comm (a % b) 2, Nat.mul_comm a b]
    exact Nat.mul_le_mul_right _ (Nat.mul_le_mul_left b hh)
theorem eu_e {a b G P i : Nat} (hP : P < 2 ^ 98) (hg : Nat.gcd a b = G) (h1 : i = 0 ∨ b ≤ a) (h2 : a * b * 2 ^ (i - 1) ≤ P) (hi : 99 ≤ i) : b = 0 ∧ a = G := by
  have hb : b = 0 := by
    rcases Nat.eq_zero_or_pos b with h | h
    · exact h
    · have ha : 0 < a := by omega
      have p1 : 0 < a * b := Nat.mul_pos ha h
      have p2 : 2 ^ 98 ≤ 2 ^ (i - 1) := Nat.pow_le_pow_right (by decide) (by omega)
      have p3 : 1 * 2 ^ (i - 1) ≤ a * b * 2 ^ (i - 1) := Nat.mul_le_mul_right _ p1
      omega
  subst hb
  exact ⟨rfl, by rw [← hg, Nat.gcd_zero_right]⟩
theorem c_common {a0 b0 : Nat} (hP : a0 * b0 < 2 ^ 98) (ha : a0 ≤ 10000000000000) (hb : b0 ≤ 10000000000000) (S : jSt) : f_X11_commonDivisor (a0 : Int) (b0 : Int) S = some (((Nat.gcd a0 b0 : Nat) : Int), S) := by
  unfold f_X11_commonDivisor f_X11_commonDivisor_b9
  refine lpe (fun (r : Int → Int → Int → fK) i (c : Nat × Nat) => r (c.1 : Int) (c.2 : Int) (i : Int) S) (fun i c => (Nat.gcd c.1 c.2 = Nat.gcd a0 b0 ∧ (i = 0 ∨ c.2 ≤ c.1) ∧ c.1 * c.2 * 2 ^ (i - 1) ≤ a0 * b0) ∧ c.1 ≤ 10000000000000 ∧ c.2 ≤ 10000000000000) (fun r => r = some (((Nat.gcd a0 b0 : Nat) : Int), S)) (N := 100) ?_ ?_ jN 0 (a0, b0) (by omega) (by unfold jN; omega) ⟨⟨rfl, Or.inl rfl, by show a0 * b0 * 2 ^ 0 ≤ _; omega⟩, ha, hb⟩
  · intro r i c hi hinv ih
    obtain ⟨⟨g1, g2, g3⟩, g4, g5⟩ := hinv
    show f_X11_commonDivisor_b9B r _ _ _ _ = _
    unfold f_X11_commonDivisor_b9B f_X11_commonDivisor_b44
    rw [if_neg (by omega)]
    by_cases h0 : c.2 = 0
    · rw [if_pos (by omega)]
      rw [h0, Nat.gcd_zero_right] at g1
      rw [g1]
    · have st := eu_s (by omega) g1 g2 g3
      have lt := Nat.mod_lt c.1 (show 0 < c.2 by omega)
      rw [if_neg (by omega), if_neg (by omega), flet_eq, flet_eq, lrem_n (by omega) (by omega) (by omega) (by omega), w32_of (by omega) (by omega), zs, show (c.1 : Int) % (c.2 : Int) = ((c.1 % c.2 : Nat) : Int) from rfl]
      exact ih (c.2, c.1 % c.2) ⟨⟨st.1, Or.inr st.2.1, st.2.2⟩, g5, by show c.1 % c.2 ≤ _; omega⟩
  · intro r c hinv
    obtain ⟨⟨g1, g2, g3⟩, g4, g5⟩ := hinv
    have e := eu_e hP g1 g2 g3 (by omega)
    show f_X11_commonDivisor_b9B r _ _ _ _ = _
    unfold f_X11_commonDivisor_b9B f_X11_commonDivisor_b44
    rw [if_pos (by omega), e.2]
theorem s_div {a0 b0 : Nat} (hP : a0 * b0 < 2 ^ 98) (ha : a0 ≤ 10000000000000) (hb : b0 ≤ 10000000000000) (S : jSt) : f_X12_divisor (a0 : Int) (b0 : Int) S = some (((Nat.gcd a0 b0 : Nat) : Int), S) := by
  unfold f_X12_divisor f_X12_divisor_b6
  refine lpe (fun (r : Int → Int → fK) i (c : Nat × Nat) => r (c.1 : Int) (c.2 : Int) S) (fun i c => (Nat.gcd c.1 c.2 = Nat.gcd a0 b0 ∧ (i = 0 ∨ c.2 ≤ c.1) ∧ c.1 * c.2 * 2 ^ (i - 1) ≤ a0 * b0) ∧ c.1 ≤ 10000000000000 ∧ c.2 ≤ 10000000000000) (fun r => r = some (((Nat.gcd a0 b0 : Nat) : Int), S)) (N := 100) ?_ ?_ jN 0 (a0, b0) (by omega) (by unfold jN; omega) ⟨⟨rfl, Or.inl rfl, by show a0 * b0 * 2 ^ 0 ≤ _; omega⟩, ha, hb⟩
  · intro r i c hi hinv ih
    obtain ⟨⟨g1, g2, g3⟩, g4, g5⟩ := hinv
    show f_X12_divisor_b6B r _ _ _ = _
    unfold f_X12_divisor_b6B
    by_cases h0 : c.2 = 0
    · rw [if_pos (by omega)]
      rw [h0, Nat.gcd_zero_right] at g1
      rw [g1]
    · have st := eu_s (by omega) g1 g2 g3
      have lt := Nat.mod_lt c.1 (show 0 < c.2 by omega)
      rw [if_neg (by omega), if_neg (by omega), flet_eq, lrem_n (by omega) (by omega) (by omega) (by omega), show (c.1 : Int) % (c.2 : Int) = ((c.1 % c.2 : Nat) : Int) from rfl]
      exact ih (c.2, c.1 % c.2) ⟨⟨st.1, Or.inr st.2.1, st.2.2⟩, g5, by show c.1 % c.2 ≤ _; omega⟩
  · intro r c hinv
    obtain ⟨⟨g1, g2, g3⟩, g4, g5⟩ := hinv
    have e := eu_e hP g1 g2 g3 (by omega)
    show f_X12_divisor_b6B r _ _ _ = _
    unfold f_X12_divisor_b6B
    rw [if_pos (by omega), e.2]
theorem g_leave (n w : Int) : Good x (f_X11_leave (x : Int) n w) (f_X12_leave ((x + 426 : Nat) : Int) n w) := Good_q (fun Z C F V h H => by
  have I := H.1
  have X := h.2.1.2.1
  have o10 := h.2.1.2.2.1.2.2.2.2
  unfold f_X11_leave f_X11_leave_b23 f_X11_leave_b74 f_X12_leave f_X12_leave_b17 f_X12_leave_b39
  by_cases h1 : 0 ≤ n ∧ n ≤ 6
  · obtain ⟨k, rfl⟩ : ∃ k : Nat, n = (k : Int) := ⟨n.toNat, by omega⟩
    by_cases h3 : tkv (odd (F 1)) 6 = 10
    · obtain ⟨t1, t2, t3⟩ := tnv_b k (by omega)
      have m1 := mov_b (p := odd (F 1)) (fun i hi => o10 i hi) k (by omega)
      have bm : bnd k ≤ 2332800000000 := by
        by_cases k6 : k = 6
        · subst k6; exact Int.le_refl _
        · have := bnd_m k (by omega); omega
      obtain ⟨T, hT⟩ : ∃ T : Nat, tnv k = (T : Int) := ⟨(tnv k).toNat, by omega⟩
      obtain ⟨M, hM⟩ : ∃ M : Nat, mov (odd (F 1)) k = (M : Int) := ⟨(mov (odd (F 1)) k).toNat, by omega⟩
      have TM : T * M ≤ 1000000 * 2332800000000 := Nat.mul_le_mul (by omega) (by omega)
      have P1 : T * M < 2 ^ 98 := Nat.lt_of_le_of_lt TM (by decide)
      have P2 : M * T < 2 ^ 98 := by rw [Nat.mul_comm]; exact P1
      have gp : 0 < Nat.gcd T M := Nat.gcd_pos_of_pos_left _ (by omega)
      refine ⟨if w = 0 then ldiv64 (M : Int) ((Nat.gcd T M : Nat) : Int) else ldiv64 (T : Int) ((Nat.gcd T M : Nat) : Int), ?_, fun S2 hS R2 => ?_⟩
      · rw [s_within, fcall_some, if_b01, if_pos h1, cr0_0 I, cr1_15 I, c_v I (i := 12) (by decide) rfl, c_whole I X, fcall_some, if_b01, if_pos h3, c_unit k (by omega), fcall_some, cr0_0 I, cr1_15 I, c_v I (i := 12) (by decide) rfl, c_mean I X (by omega), fcall_some, hT, hM, c_common P1 (by omega) (by omega), fcall_some, if_neg (by omega)]
        by_cases hw : w = 0
        · rw [if_pos hw, if_pos hw, if_neg (by omega)]
        · rw [if_neg hw, if_neg hw, if_neg (by omega)]
      · have R := R2.1
        rw [s_isIn, fcall_some, if_b01, if_pos h1, r_cv R, s_isTen R, fcall_some, if_b01, if_pos h3, r_cv R, s_mean R (by omega), fcall_some]
        by_cases hw : w = 0
        · rw [if_pos hw, if_pos hw, s_tens k (by omega), fcall_some, hT, hM, s_div P2 (by omega) (by omega), fcall_some, Nat.gcd_comm M T, if_neg (by omega)]
        · rw [if_neg hw, if_neg hw, s_tens k (by omega), fcall_some, s_tens k (by omega), fcall_some, hT, hM, s_div P2 (by omega) (by omega), fcall_some, Nat.gcd_comm M T, if_neg (by omega)]
    · refine ⟨-1, ?_, fun S2 hS R2 => ?_⟩
      · rw [s_within, fcall_some, if_b01, if_pos h1, cr0_0 I, cr1_15 I, c_v I (i := 12) (by decide) rfl, c_whole I X, fcall_some, if_b01, if_neg h3]
      · have R := R2.1
        rw [s_isIn, fcall_some, if_b01, if_pos h1, r_cv R, s_isTen R, fcall_some, if_b01, if_neg h3]
  · refine ⟨-1, ?_, fun S2 hS R2 => ?_⟩
    · rw [s_within, fcall_some, if_b01, if_neg h1]
    · rw [s_isIn, fcall_some, if_b01, if_neg h1])
end LV
