-- the constructors: cells are laid one behind the other
section NW
def cty2 (i : Nat) : Nat × Nat := if i < 426 then ctyp i else if i = 426 then (0, 12) else if i < 429 then (1, 4903) else if i = 429 then (1, 2820) else if i = 430 then (1, 300) else if i = 431 then (1, 160) else if i = 432 then (1, 9) else if i = 433 then (2, 330) else if i = 434 then (3, 330) else if i = 435 then (1, 141) else (1, 5)
def tS (x n sl : Nat) (C : Nat → Nat → Int) : jSt := (x + n, sl, (fun p => if x ≤ p ∧ p < x + n then cty2 (p - x) else (9, 0)), fun p => if x ≤ p ∧ p < x + n then C (p - x) else fun _ => 0)
def dfl (ci : Nat) : Nat → Int := fun k => jdf (jtyO ci k)
variable {x n n' sl i : Nat} {C : Nat → Nat → Int} {g : Nat → Int}
theorem cty_c (h : i < 426) : cty2 i = ctyp i := if_pos h
theorem tS_new {t : Nat × Nat} {N : Nat} {v : Nat → Int} (e : n' = n + 1) (ht : cty2 n = t) : jnewS (tS x n sl C) t N v = tS x n' (sl + N) (va_up C n v) := by
  subst e
  unfold jnewS tS
  show ((x + n + 1, sl + N, va_up (fun p => if x ≤ p ∧ p < x + n then cty2 (p - x) else (9, 0)) (x + n) t, va_up (fun p => if x ≤ p ∧ p < x + n then C (p - x) else fun _ => 0) (x + n) v) : jSt) = (x + (n + 1), sl + N, (fun p => if x ≤ p ∧ p < x + (n + 1) then cty2 (p - x) else (9, 0)), fun p => if x ≤ p ∧ p < x + (n + 1) then va_up C n v (p - x) else fun _ => 0)
  have e1 : va_up (fun p => if x ≤ p ∧ p < x + n then cty2 (p - x) else (9, 0)) (x + n) t = fun p => if x ≤ p ∧ p < x + (n + 1) then cty2 (p - x) else (9, 0) := by
    funext p
    by_cases h : p = x + n
    · subst h
      rw [va_up_self, if_pos ⟨by omega, by omega⟩, show x + n - x = n by omega, ht]
    · rw [va_up_ne _ _ h]
      show (if x ≤ p ∧ p < x + n then cty2 (p - x) else (9, 0)) = _
      by_cases q : x ≤ p ∧ p < x + n
      · rw [if_pos q, if_pos ⟨by omega, by omega⟩]
      · rw [if_neg q, if_neg (by omega)]
  have e2 : va_up (fun p => if x ≤ p ∧ p < x + n then C (p - x) else fun _ => 0) (x + n) v = fun p => if x ≤ p ∧ p < x + (n + 1) then va_up C n v (p - x) else fun _ => 0 := by
    funext p
    by_cases h : p = x + n
    · subst h
      rw [va_up_self, if_pos ⟨by omega, by omega⟩, show x + n - x = n by omega, va_up_self]
    · rw [va_up_ne _ _ h]
      show (if x ≤ p ∧ p < x + n then C (p - x) else fun _ => 0) = _
      by_cases q : x ≤ p ∧ p < x + n
      · rw [if_pos q, if_pos ⟨by omega, by omega⟩, va_up_ne _ _ (by omega)]
      · rw [if_neg q, if_neg (by omega)]
  rw [e1, e2]
  rfl
theorem va_cm {α : Type} (f : Nat → α) {a b : Nat} (h : a ≠ b) (u v : α) : va_up (va_up f a u) b v = va_up (va_up f b v) a u := by
  funext k
  unfold va_up
  by_cases h1 : k = b
  · rw [if_pos h1, if_neg (by omega), if_pos h1]
  · rw [if_neg h1]
    by_cases h2 : k = a
    · rw [if_pos h2, if_pos h2]
    · rw [if_neg h2, if_neg h2, if_neg h1]
theorem va_eta {α : Type} (f : Nat → α) (a : Nat) : va_up f a (f a) = f := by
  funext k
  by_cases h : k = a
  · subst h; rw [va_up_self]
  · rw [va_up_ne _ _ h]
theorem n_new {ci : Nat} {f : Int → jSt → Option (Int × jSt)} (e : n' = n + 1) (ht : cty2 n = (0, ci)) : fnew (tS x n sl C) ci f = f ((x + n : Nat) : Int) (tS x n' (sl + jnO ci) (va_up C n (dfl ci))) := by
  unfold fnew
  rw [tS_new e ht]
  rfl
theorem n_newa {kd N : Nat} {z : Int} {f : Int → jSt → Option (Int × jSt)} (e : n' = n + 1) (hz : z = (N : Int)) (hN : N ≤ 65536) (ht : cty2 n = (kd, N)) (hi : i ≠ n) : fnewa (tS x n sl (va_up C i g)) kd z f = f ((x + n : Nat) : Int) (tS x n' (sl + N) (va_up (va_up C n (fun _ => 0)) i g)) := by
  subst hz
  unfold fnewa
  rw [if_pos ⟨by omega, by omega⟩, toNat_z, tS_new e ht, va_cm _ hi]
  rfl
theorem n_newr {kd N : Nat} {z : Int} {f : Int → jSt → Option (Int × jSt)} (e : n' = n + 1) (hz : z = (N : Int)) (hN : N ≤ 65536) (ht : cty2 n = (kd, N)) (hi : i ≠ n) : fnewr (tS x n sl (va_up C i g)) kd z f = f ((x + n : Nat) : Int) (tS x n' (sl + N) (va_up (va_up C n (fun _ => -1)) i g)) := by
  subst hz
  unfold fnewr
  rw [if_pos ⟨by omega, by omega⟩, toNat_z, tS_new e ht, va_cm _ hi]
  rfl
theorem tS_ty (hi : i < n) : jty (tS x n sl C) ((x + i : Nat) : Int) = cty2 i := by
  unfold jty tS
  show (if x ≤ ((x + i : Nat) : Int).toNat ∧ ((x + i : Nat) : Int).toNat < x + n then cty2 (((x + i : Nat) : Int).toNat - x) else (9, 0)) = _
  rw [toNat_z, if_pos ⟨by omega, by omega⟩, Nat.add_sub_cancel_left]
theorem tS_g (hi : i < n) (k : Nat) : jg (tS x n sl C) ((x + i : Nat) : Int) k = C i k := by
  unfold jg tS
  show (if x ≤ ((x + i : Nat) : Int).toNat ∧ ((x + i : Nat) : Int).toNat < x + n then C (((x + i : Nat) : Int).toNat - x) else fun _ => 0) k = _
  rw [toNat_z, if_pos ⟨by omega, by omega⟩, Nat.add_sub_cancel_left]
theorem tS_put (hi : i < n) (k : Nat) (z : Int) : jput (tS x n sl C) ((x + i : Nat) : Int) k z = tS x n sl (va_up C i (va_up (C i) k z)) := by
  unfold jput tS
  show ((x + n, sl, (fun p => if x ≤ p ∧ p < x + n then cty2 (p - x) else (9, 0)), va_up (fun p => if x ≤ p ∧ p < x + n then C (p - x) else fun _ => 0) ((x + i : Nat) : Int).toNat (va_up (if x ≤ ((x + i : Nat) : Int).toNat ∧ ((x + i : Nat) : Int).toNat < x + n then C (((x + i : Nat) : Int).toNat - x) else fun _ => 0) k z)) : jSt) = _
  rw [toNat_z, if_pos ⟨by omega, by omega⟩, Nat.add_sub_cancel_left]
  have e2 : va_up (fun p => if x ≤ p ∧ p < x + n then C (p - x) else fun _ => 0) (x + i) (va_up (C i) k z) = fun p => if x ≤ p ∧ p < x + n then va_up C i (va_up (C i) k z) (p - x) else fun _ => 0 := by
    funext p
    by_cases h : p = x + i
    · subst h
      rw [va_up_self, if_pos ⟨by omega, by omega⟩, show x + i - x = i by omega, va_up_self]
    · rw [va_up_ne _ _ h]
      show (if x ≤ p ∧ p < x + n then C (p - x) else fun _ => 0) = _
      by_cases q : x ≤ p ∧ p < x + n
      · rw [if_pos q, if_pos q, va_up_ne _ _ (by omega)]
      · rw [if_neg q, if_neg q]
  rw [e2]
theorem n_put {ci k : Nat} {z : Int} {f : jSt → Option (Int × jSt)} (hi : i < n) (ht : cty2 i = (0, ci)) : fput (tS x n sl (va_up C i g)) ((x + i : Nat) : Int) ci k z f = f (tS x n sl (va_up C i (va_up g k z))) := by
  unfold fput
  rw [tS_ty hi, if_pos ht, tS_put hi, va_up_self, va_uu]
theorem n_ast {kd N k : Nat} {j z : Int} {f : jSt → Option (Int × jSt)} (hj : j = (k : Int)) (hi : i < n) (ht : cty2 i = (kd, N)) (hk : k < N) : fast (tS x n sl (va_up C i g)) ((x + i : Nat) : Int) j kd z f = f (tS x n sl (va_up C i (va_up g k z))) := by
  subst hj
  unfold fast
  rw [tS_ty hi, ht, if_pos ⟨rfl, by omega, by show (k : Int) < (N : Int); omega⟩, tS_put hi, va_up_self, va_uu, toNat_z]
theorem n_astr {kd N ci k q : Nat} {f : jSt → Option (Int × jSt)} (hi : i < n) (ht : cty2 i = (kd, N)) (hk : k < N) (hq : q < n) (hc : cty2 q = (0, ci)) : fastr (tS x n sl C) ((x + i : Nat) : Int) (k : Int) kd ci ((x + q : Nat) : Int) f = f (tS x n sl (va_up C i (va_up (C i) k ((x + q : Nat) : Int)))) := by
  unfold fastr
  rw [tS_ty hi, ht, tS_ty hq, if_pos ⟨rfl, by omega, by show (k : Int) < (N : Int); omega, Or.inr hc⟩, tS_put hi, toNat_z]
theorem n_getr {ci k q : Nat} {f : Int → Option (Int × jSt)} (hi : i < n) (ht : cty2 i = (0, ci)) (hq : C i k = ((x + q : Nat) : Int)) : fgetr (tS x n sl C) ((x + i : Nat) : Int) ci k f = f ((x + q : Nat) : Int) := by
  unfold fgetr
  rw [tS_ty hi, tS_g hi, hq, if_pos ⟨ht, by omega⟩]
/-- a cell's links -/
def Rf (x : Nat) (C : Nat → Nat → Int) (i : Nat) : Prop := ∀ k, crf i k ≠ 0 → C i k = ((x + crf i k : Nat) : Int)
theorem Rf_fr {C' : Nat → Nat → Int} (h : Rf x C i) (e : C' i = C i) : Rf x C' i := fun k hk => by rw [e]; exact h k hk
def HV (o : Nat) (C : Nat → Nat → Int) : Prop := (C o 5 = 0 ∧ C o 6 = 0 ∧ C o 7 = 0 ∧ C o 8 = 211) ∧ ∀ j, 1 ≤ j → j < 6 → C (o + j) = fun _ => 0
theorem n_H {o : Nat} (ho : isH o) : ∃ sl' C', f_X1_init ((x + o : Nat) : Int) (tS x (o + 1) sl (va_up C o (dfl 1))) = some (0, tS x (o + 6) sl' C') ∧ sl' ≤ sl + 209 ∧ (∀ j, j < o → C' j = C j) ∧ (∀ j, o ≤ j → j < o + 6 → Rf x C' j) ∧ HV o C' := by
  have lt := isH_lt ho
  have c0 : cty2 o = (0, 1) := by rw [cty_c (by omega)]; exact ct_h ho (j := 0) (by omega)
  have c1 : cty2 (o + 1) = (1, 12) := by rw [cty_c (by omega), ct_h ho (by omega)]; rfl
  have c2 : cty2 (o + 2) = (1, 12) := by rw [cty_c (by omega), ct_h ho (by omega)]; rfl
  have c3 : cty2 (o + 3) = (1, 5) := by rw [cty_c (by omega), ct_h ho (by omega)]; rfl
  have c4 : cty2 (o + 4) = (1, 60) := by rw [cty_c (by omega), ct_h ho (by omega)]; rfl
  have c5 : cty2 (o + 5) = (1, 120) := by rw [cty_c (by omega), ct_h ho (by omega)]; rfl
  unfold f_X1_init
  rw [n_newa (N := 12) (z := 12) (n' := o + 2) rfl rfl (by omega) c1 (by omega), n_put (by omega) c0, n_newa (N := 12) (z := 12) (n' := o + 3) rfl rfl (by omega) c2 (by omega), n_put (by omega) c0, n_newa (N := 5) (z := 5) (n' := o + 4) rfl rfl (by omega) c3 (by omega), n_put (by omega) c0, n_newa (N := 60) (z := 60) (n' := o + 5) rfl rfl (by omega) c4 (by omega), n_put (by omega) c0, n_newa (N := 120) (z := 120) (n' := o + 6) rfl rfl (by omega) c5 (by omega), n_put (by omega) c0, n_put (by omega) c0]
  refine ⟨_, _, rfl, by omega, fun j hj => ?_, fun j h1 h2 => ?_, ⟨⟨?_, ?_, ?_, ?_⟩, fun j h1 h2 => ?_⟩⟩
  · rw [va_up_ne _ _ (by omega), va_up_ne _ _ (by omega), va_up_ne _ _ (by omega), va_up_ne _ _ (by omega), va_up_ne _ _ (by omega), va_up_ne _ _ (by omega)]
  · intro k hk
    by_cases e : j = o
    · subst e
      rw [va_up_self]
      by_cases k5 : k < 5
      · rw [crf_h0 ho k5, va_up_ne _ _ (by omega)]
        by_cases e4 : k = 4
        · subst e4; rw [va_up_self]
        · rw [va_up_ne _ _ e4]
          by_cases e3 : k = 3
          · subst e3; rw [va_up_self]
          · rw [va_up_ne _ _ e3]
            by_cases e2 : k = 2
            · subst e2; rw [va_up_self]
            · rw [va_up_ne _ _ e2]
              by_cases e1 : k = 1
              · subst e1; rw [va_up_self]
              · rw [va_up_ne _ _ e1, show k = 0 by omega, va_up_self]
      · exact absurd (crf_hs ho (by omega)) hk
    · obtain ⟨q, rfl⟩ : ∃ q, j = o + q := ⟨j - o, by omega⟩
      exact absurd (crf_ha ho (by omega) (by omega) k) hk
  · rw [va_up_self, va_up_ne _ _ (by decide), va_up_ne _ _ (by decide), va_up_ne _ _ (by decide), va_up_ne _ _ (by decide), va_up_ne _ _ (by decide), va_up_ne _ _ (by decide)]
    rfl
  · rw [va_up_self, va_up_ne _ _ (by decide), va_up_ne _ _ (by decide), va_up_ne _ _ (by decide), va_up_ne _ _ (by decide), va_up_ne _ _ (by decide), va_up_ne _ _ (by decide)]
    rfl
  · rw [va_up_self, va_up_ne _ _ (by decide), va_up_ne _ _ (by decide), va_up_ne _ _ (by decide), va_up_ne _ _ (by decide), va_up_ne _ _ (by decide), va_up_ne _ _ (by decide)]
    rfl
  · rw [va_up_self, va_up_self]
  · rw [va_up_ne _ _ (by omega)]
    by_cases e5 : j = 5
    · subst e5; rw [va_up_self]
    · rw [va_up_ne _ _ (by omega)]
      by_cases e4 : j = 4
      · subst e4; rw [va_up_self]
      · rw [va_up_ne _ _ (by omega)]
        by_cases e3 : j = 3
        · subst e3; rw [va_up_self]
        · rw [va_up_ne _ _ (by omega)]
          by_cases e2 : j = 2
          · subst e2; rw [va_up_self]
          · rw [va_up_ne _ _ (by omega), show j = 1 by omega, va_up_self]
end NW
