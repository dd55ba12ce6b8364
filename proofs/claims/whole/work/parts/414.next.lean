-- order, the reference: the next turn
section NX
def nfi (t : Nat → Int) : Nat → Option Nat
  | 0 => none
  | k + 1 => if t k ≤ t (k + 1) then some k else nfi t k
def nfk (t : Nat → Int) (i : Nat) : Nat → Nat
  | 0 => 0
  | k + 1 => if t i ≤ t (k + 1) then k + 1 else nfk t i k
def nsw (t : Nat → Int) (i k : Nat) : Nat → Int := va_up (va_up t i (t k)) k (t i)
def nrv (t : Nat → Int) (p q : Nat) : Nat → (Nat → Int)
  | 0 => t
  | f + 1 => if q ≤ p then t else nrv (nsw t p q) (p + 1) (q - 1) f
def nx (n : Nat) (t : Nat → Int) : Option (Nat → Int) := match nfi t (n - 1) with
  | none => none
  | some i => some (nrv (nsw t i (nfk t i (n - 1))) (i + 1) (n - 1) 5)
theorem nfi_b (t : Nat → Int) : ∀ k i, nfi t k = some i → i < k ∧ t i ≤ t (i + 1)
  | 0, i, h => by cases h
  | k + 1, i, h => by
    unfold nfi at h
    by_cases c : t k ≤ t (k + 1)
    · rw [if_pos c] at h
      injection h with h
      subst h
      exact ⟨by omega, c⟩
    · rw [if_neg c] at h
      have := nfi_b t k i h
      exact ⟨by omega, this.2⟩
theorem nfk_b (t : Nat → Int) (i : Nat) : ∀ k, nfk t i k ≤ k
  | 0 => Nat.le_refl _
  | k + 1 => by
    unfold nfk
    have := nfk_b t i k
    split <;> omega
variable {m : Nat} {S : jSt} {F : Nat → Nat → Int}
theorem s_swap (R : RI m S F) {i k : Nat} (hi : i < 5) (hk : k < 5) : f_X12_swap (m : Int) (i : Int) (k : Int) (rS m S F) = some (0, rS m S (va_up F 10 (nsw (F 10) i k))) := by
  have R1 : RI m S (va_up F 10 (va_up (F 10) i (F 10 k))) := rV R (by omega) _
  unfold f_X12_swap nsw
  rw [r_tu R, ra_10 R (by omega) (by omega), toNat_z, r_tu R, r_tu R, ra_10 R (by omega) (by omega), toNat_z, rt_10 R (by omega) (by omega), toNat_z, r_tu R1, rt_10 R1 (by omega) (by omega), toNat_z, va_up_self, va_uu]
theorem s_rev (R : RI m S F) : ∀ (f n : Nat) (t : Nat → Int) (p q : Nat), f < n → q ≤ p + f → q < 5 → p ≤ 5 → jrep (fun _ _ _ _ => none) (fun r => f_X12_isNextTurn_b78B r) n (m : Int) (p : Int) (q : Int) (rS m S (va_up F 10 t)) = some (1, rS m S (va_up F 10 (nrv t p q f)))
  | f, 0, t, p, q, h, _, _, _ => by omega
  | 0, n + 1, t, p, q, h, h1, h2, h3 => by
    rw [jrep_s]
    generalize jrep (fun _ _ _ _ => none) (fun r => f_X12_isNextTurn_b78B r) n = r
    unfold f_X12_isNextTurn_b78B
    rw [if_pos (by omega)]
    rfl
  | f + 1, n + 1, t, p, q, h, h1, h2, h3 => by
    have ih := fun t p q h1 h2 h3 => s_rev R f n t p q (by omega) h1 h2 h3
    rw [jrep_s]
    generalize jrep (fun _ _ _ _ => none) (fun r => f_X12_isNextTurn_b78B r) n = r at ih ⊢
    unfold f_X12_isNextTurn_b78B
    have R1 : RI m S (va_up F 10 t) := rV R (by omega) _
    unfold nrv
    by_cases c : q ≤ p
    · rw [if_pos (by omega), if_pos c]
    · rw [if_neg (by omega), if_neg c, r_cv R1, s_swap R1 (by omega) (by omega), fcall_some, flet_eq, flet_eq, va_up_self, va_uu, w32_of (z := (q : Int) + -1) (by omega) (by omega), w32_of (z := (p : Int) + 1) (by omega) (by omega), zs, show (q : Int) + -1 = ((q - 1 : Nat) : Int) by omega]
      exact ih _ _ _ (by omega) (by omega) (by omega)
theorem s_nk (R : RI m S F) {i N : Nat} (hN : 1 ≤ N ∧ N ≤ 5) : ∀ (n k : Nat), k < n → k < N → (∃ j, i < j ∧ j ≤ k ∧ F 10 i ≤ F 10 j) → jrep (fun _ _ _ _ _ => none) (fun r => f_X12_isNextTurn_b41B r) n (m : Int) (N : Int) (i : Int) (k : Int) (rS m S F) = some (1, rS m S (va_up F 10 (nrv (nsw (F 10) i (nfk (F 10) i k)) (i + 1) (N - 1) 5)))
  | 0, k, h, _, _ => by omega
  | n + 1, k, h, hk, ⟨j, j1, j2, j3⟩ => by
    have ih := s_nk R (i := i) hN n
    rw [jrep_s]
    generalize jrep (fun _ _ _ _ _ => none) (fun r => f_X12_isNextTurn_b41B r) n = r at ih ⊢
    obtain ⟨k, rfl⟩ : ∃ q, k = q + 1 := ⟨k - 1, by omega⟩
    unfold f_X12_isNextTurn_b41B
    rw [r_tu R, ra_10 R (by omega) (by omega), toNat_z, r_tu R, ra_10 R (by omega) (by omega), toNat_z]
    unfold nfk
    by_cases c : F 10 i ≤ F 10 (k + 1)
    · rw [if_pos c, if_pos c, r_cv R, s_swap R (by omega) (by omega), fcall_some, flet_eq, flet_eq, w32_of (z := (i : Int) + 1) (by omega) (by omega), w32_of (z := (N : Int) - 1) (by omega) (by omega), zs, show (N : Int) - 1 = ((N - 1 : Nat) : Int) by omega]
      unfold f_X12_isNextTurn_b78
      exact s_rev R 5 jN _ _ _ (by unfold jN; omega) (by omega) (by omega) (by omega)
    · rw [if_neg c, if_neg c, flet_eq, w32_of (by omega) (by omega), show ((k + 1 : Nat) : Int) + -1 = (k : Int) by omega]
      refine ih k (by omega) (by omega) ⟨j, j1, ?_, j3⟩
      have : j ≠ k + 1 := fun z => c (by rw [← z]; exact j3)
      omega
theorem s_next (R : RI m S F) {N : Nat} (hN : 1 ≤ N ∧ N ≤ 5) : f_X12_isNextTurn (m : Int) (N : Int) (rS m S F) = match nx N (F 10) with
    | none => some (0, rS m S F)
    | some t => some (1, rS m S (va_up F 10 t)) := by
  have key : ∀ (n k : Nat), k < n → k < N → jrep (fun _ _ _ _ => none) (fun r => f_X12_isNextTurn_b4B r) n (m : Int) (N : Int) ((k : Int) - 1) (rS m S F) = match nfi (F 10) k with
      | none => some (0, rS m S F)
      | some i => some (1, rS m S (va_up F 10 (nrv (nsw (F 10) i (nfk (F 10) i (N - 1))) (i + 1) (N - 1) 5))) := by
    intro n
    induction n with
    | zero => intro k h; omega
    | succ n ih =>
      intro k h hk
      rw [jrep_s]
      generalize jrep (fun _ _ _ _ => none) (fun r => f_X12_isNextTurn_b4B r) n = r at ih ⊢
      unfold f_X12_isNextTurn_b4B
      match k, h, hk with
      | 0, h, hk =>
        unfold f_X12_isNextTurn_b31
        rw [if_pos (by omega), if_neg (by omega)]
        rfl
      | k + 1, h, hk =>
        rw [if_neg (by omega), show ((k + 1 : Nat) : Int) - 1 = (k : Int) by omega, r_tu R, ra_10 R (by omega) (by omega), toNat_z, r_tu R, w32_of (z := (k : Int) + 1) (by omega) (by omega), zs, ra_10 R (by omega) (by omega), toNat_z]
        by_cases c : F 10 k ≤ F 10 (k + 1)
        · have e : nfi (F 10) (k + 1) = some k := by unfold nfi; rw [if_pos c]
          rw [if_pos c, e]
          unfold f_X12_isNextTurn_b31
          rw [if_pos (by omega), flet_eq, w32_of (by omega) (by omega), show (N : Int) - 1 = ((N - 1 : Nat) : Int) by omega]
          unfold f_X12_isNextTurn_b41
          exact s_nk R hN jN (N - 1) (by unfold jN; omega) (by omega) ⟨k + 1, by omega, by omega, c⟩
        · have e : nfi (F 10) (k + 1) = nfi (F 10) k := by
            conv => lhs; unfold nfi
            rw [if_neg c]
          rw [if_neg c, e, flet_eq, w32_of (by omega) (by omega)]
          exact ih k (by omega) (by omega)
  unfold f_X12_isNextTurn nx
  rw [flet_eq, w32_of (by omega) (by omega), show (N : Int) - 2 = ((N - 1 : Nat) : Int) - 1 by omega]
  unfold f_X12_isNextTurn_b4
  rw [key jN (N - 1) (by unfold jN; omega) (by omega)]
  cases nfi (F 10) (N - 1) <;> rfl
end NX
section NM
variable {n : Nat} {M : Int → Int} {u t : Nat → Int}
theorem nfi_e (ho : ∀ i, i < n → ∀ j, j < n → (t i ≤ t j ↔ u i ≤ u j)) : ∀ k, k < n → nfi t k = nfi u k
  | 0, _ => rfl
  | k + 1, h => by
    unfold nfi
    rw [nfi_e ho k (by omega)]
    by_cases c : u k ≤ u (k + 1)
    · rw [if_pos c, if_pos ((ho k (by omega) (k + 1) h).mpr c)]
    · rw [if_neg c, if_neg (fun z => c ((ho k (by omega) (k + 1) h).mp z))]
theorem nfk_e (ho : ∀ i, i < n → ∀ j, j < n → (t i ≤ t j ↔ u i ≤ u j)) {i : Nat} (hi : i < n) : ∀ k, k < n → nfk t i k = nfk u i k
  | 0, _ => rfl
  | k + 1, h => by
    unfold nfk
    rw [nfk_e ho hi k (by omega)]
    by_cases c : u i ≤ u (k + 1)
    · rw [if_pos c, if_pos ((ho i hi (k + 1) h).mpr c)]
    · rw [if_neg c, if_neg (fun z => c ((ho i hi (k + 1) h).mp z))]
theorem nsw_e (he : ∀ k, k < n → t k = M (u k)) {i j : Nat} (hi : i < n) (hj : j < n) : ∀ k, k < n → nsw t i j k = M (nsw u i j k) := by
  intro k hk
  unfold nsw
  by_cases k1 : k = j
  · subst k1
    rw [va_up_self, va_up_self, he i hi]
  · rw [va_up_ne _ _ k1, va_up_ne _ _ k1]
    by_cases k2 : k = i
    · subst k2
      rw [va_up_self, va_up_self, he j hj]
    · rw [va_up_ne _ _ k2, va_up_ne _ _ k2, he k hk]
theorem nrv_e : ∀ (f : Nat) (u t : Nat → Int) (p q : Nat), (∀ k, k < n → t k = M (u k)) → q < n → ∀ k, k < n → nrv t p q f k = M (nrv u p q f k)
  | 0, u, t, p, q, he, hq => he
  | f + 1, u, t, p, q, he, hq => by
    unfold nrv
    by_cases c : q ≤ p
    · rw [if_pos c, if_pos c]
      exact he
    · rw [if_neg c, if_neg c]
      exact nrv_e f _ _ _ _ (nsw_e he (by omega) hq) (by omega)
theorem nx_e (hn : 1 ≤ n) (ho : ∀ i, i < n → ∀ j, j < n → (t i ≤ t j ↔ u i ≤ u j)) (he : ∀ k, k < n → t k = M (u k)) : (nx n u = none → nx n t = none) ∧ ∀ u', nx n u = some u' → ∃ t', nx n t = some t' ∧ ∀ k, k < n → t' k = M (u' k) := by
  unfold nx
  rw [nfi_e ho (n - 1) (by omega)]
  cases e : nfi u (n - 1) with
  | none => exact ⟨fun _ => rfl, fun u' h => by cases h⟩
  | some i =>
    have ib := nfi_b u (n - 1) i e
    have kb := nfk_b u i (n - 1)
    refine ⟨(fun h => by cases h), fun u' h => ⟨_, rfl, ?_⟩⟩
    injection h with h
    rw [← h, nfk_e ho (by omega) (n - 1) (by omega)]
    exact nrv_e 5 _ _ _ _ (nsw_e he (by omega) (by omega)) (by omega)
def fnI (p : List Nat) : Nat → Int := fun k => ((p.getD k 0 : Nat) : Int)
def chkL (n : Nat) : List (List Nat) → Bool
  | [] => true
  | p :: r => (match r, nx n (fnI p) with
    | [], none => true
    | q :: _, some u => (List.range n).all (fun k => decide (u k = fnI q k))
    | _, _ => false) && chkL n r
theorem chk_1 : chkL 1 (pms 1 (List.range 1)) = true := by decide +kernel
theorem chk_2 : chkL 2 (pms 2 (List.range 2)) = true := by decide +kernel
theorem chk_3 : chkL 3 (pms 3 (List.range 3)) = true := by decide +kernel
theorem chk_4 : chkL 4 (pms 4 (List.range 4)) = true := by decide +kernel
theorem chk_5 : chkL 5 (pms 5 (List.range 5)) = true := by decide +kernel
theorem chk_n {n : Nat} (h1 : 1 ≤ n) (h2 : n ≤ 5) : chkL n (pms n (List.range n)) = true ∧ (pms n (List.range n)).length ≤ 120 ∧ (pms n (List.range n)).length ≠ 0 := by
  match n, h1, h2 with
  | 1, _, _ => exact ⟨chk_1, by decide +kernel⟩
  | 2, _, _ => exact ⟨chk_2, by decide +kernel⟩
  | 3, _, _ => exact ⟨chk_3, by decide +kernel⟩
  | 4, _, _ => exact ⟨chk_4, by decide +kernel⟩
  | 5, _, _ => exact ⟨chk_5, by decide +kernel⟩
end NM
