-- the pure part: the functional heap by regions
def gS (x N : Nat) (S : jSt) (C : Nat → Nat → Int) : jSt := (S.1, S.2.1, S.2.2.1, fun p => if x ≤ p ∧ p < x + N then C (p - x) else S.2.2.2 p)
theorem gS_ty (x N : Nat) (S : jSt) (C : Nat → Nat → Int) (p : Int) : jty (gS x N S C) p = jty S p := rfl
theorem gS_tyn (S : jSt) (p : Nat) : jty S (p : Int) = S.2.2.1 p := by
  unfold jty
  rw [Int.toNat_natCast]
theorem gS_g {x N : Nat} {S : jSt} {C : Nat → Nat → Int} {i : Nat} (hi : i < N) (k : Nat) : jg (gS x N S C) ((x + i : Nat) : Int) k = C i k := by
  unfold jg gS
  rw [Int.toNat_natCast]
  show (if x ≤ x + i ∧ x + i < x + N then C (x + i - x) else S.2.2.2 (x + i)) k = _
  rw [if_pos ⟨by omega, by omega⟩, Nat.add_sub_cancel_left]
theorem gS_put {x N : Nat} {S : jSt} {C : Nat → Nat → Int} {i : Nat} (hi : i < N) (k : Nat) (z : Int) : jput (gS x N S C) ((x + i : Nat) : Int) k z = gS x N S (va_up C i (va_up (C i) k z)) := by
  unfold jput gS
  rw [Int.toNat_natCast]
  show ((S.1, S.2.1, S.2.2.1, va_up (fun p => if x ≤ p ∧ p < x + N then C (p - x) else S.2.2.2 p) (x + i) (va_up ((fun p => if x ≤ p ∧ p < x + N then C (p - x) else S.2.2.2 p) (x + i)) k z)) : jSt) = (S.1, S.2.1, S.2.2.1, fun p => if x ≤ p ∧ p < x + N then va_up C i (va_up (C i) k z) (p - x) else S.2.2.2 p)
  congr 3
  funext p
  unfold va_up
  by_cases hp : p = x + i
  · subst hp
    simp only [if_true, Nat.add_sub_cancel_left, if_pos (show x ≤ x + i ∧ x + i < x + N from ⟨by omega, by omega⟩)]
  · rw [if_neg hp]
    show (if x ≤ p ∧ p < x + N then C (p - x) else S.2.2.2 p) = _
    by_cases hr : x ≤ p ∧ p < x + N
    · rw [if_pos hr, if_pos hr, if_neg (by omega)]
    · rw [if_neg hr, if_neg hr]
theorem w32_of {z : Int} (h1 : -2147483648 ≤ z) (h2 : z ≤ 2147483647) : w32 z = z := w32_id ⟨h1, h2⟩
theorem fcall_some (r : Int) (S : jSt) (k : Int → jSt → Option (Int × jSt)) : fcall (some (r, S)) k = k r S := rfl
theorem flet_eq (z : Int) (f : Int → Option (Int × jSt)) : flet z f = f z := rfl
-- rows over a region: an object's field, an array's place
section PR
variable {x N : Nat} {S : jSt} {C : Nat → Nat → Int} {i : Nat}
theorem g_get {ci k : Nat} {f : Int → Option (Int × jSt)} (hi : i < N) (ht : S.2.2.1 (x + i) = (0, ci)) : fget (gS x N S C) ((x + i : Nat) : Int) ci k f = f (C i k) := by
  unfold fget
  rw [gS_ty, gS_tyn, if_pos ht, gS_g hi]
theorem g_getr {ci k : Nat} {q : Int} {f : Int → Option (Int × jSt)} (hi : i < N) (ht : S.2.2.1 (x + i) = (0, ci)) (hq : C i k = q) (h0 : 0 ≤ q) : fgetr (gS x N S C) ((x + i : Nat) : Int) ci k f = f q := by
  unfold fgetr
  rw [gS_ty, gS_tyn, gS_g hi, hq, if_pos ⟨ht, h0⟩]
theorem g_put {ci k : Nat} {z : Int} {f : jSt → Option (Int × jSt)} (hi : i < N) (ht : S.2.2.1 (x + i) = (0, ci)) : fput (gS x N S C) ((x + i : Nat) : Int) ci k z f = f (gS x N S (va_up C i (va_up (C i) k z))) := by
  unfold fput
  rw [gS_ty, gS_tyn, if_pos ht, gS_put hi]
theorem g_ald {kd n : Nat} {j : Int} {f : Int → Option (Int × jSt)} (hi : i < N) (ht : S.2.2.1 (x + i) = (kd, n)) (h0 : 0 ≤ j) (h1 : j < (n : Int)) : fald (gS x N S C) ((x + i : Nat) : Int) j kd f = f (C i j.toNat) := by
  unfold fald
  rw [gS_ty, gS_tyn, ht, if_pos ⟨rfl, h0, h1⟩, gS_g hi]
theorem g_ast {kd n : Nat} {j z : Int} {f : jSt → Option (Int × jSt)} (hi : i < N) (ht : S.2.2.1 (x + i) = (kd, n)) (h0 : 0 ≤ j) (h1 : j < (n : Int)) : fast (gS x N S C) ((x + i : Nat) : Int) j kd z f = f (gS x N S (va_up C i (va_up (C i) j.toNat z))) := by
  unfold fast
  rw [gS_ty, gS_tyn, ht, if_pos ⟨rfl, h0, h1⟩, gS_put hi]
theorem g_len {n : Nat} {f : Int → Option (Int × jSt)} (hi : i < N) (ht : S.2.2.1 (x + i) = (1, n)) (h1 : n < 2147483648) : flen (gS x N S C) ((x + i : Nat) : Int) 1 f = f (n : Int) := by
  unfold flen
  rw [gS_ty, gS_tyn, ht, if_pos ⟨rfl, h1⟩]
theorem g_callv {ci : Nat} {o : Option (Int × jSt)} {k : Int → jSt → Option (Int × jSt)} (ht : S.2.2.1 (x + i) = (0, ci)) : fcallv (gS x N S C) ((x + i : Nat) : Int) ci o k = fcall o k := by
  unfold fcallv
  rw [gS_ty, gS_tyn, if_pos ht]
end PR
-- loops
theorem jrep_s {β : Type} (z : β) (s : β → β) (n : Nat) : jrep z s (n + 1) = s (jrep z s n) := rfl
-- THE REFERENCE: where its arrays lie
def RIt (m : Nat) (S : jSt) : Prop := S.2.2.1 (m + 0) = (0, 12) ∧ S.2.2.1 (m + 1) = (1, 4903) ∧ S.2.2.1 (m + 2) = (1, 4903) ∧ S.2.2.1 (m + 3) = (1, 2820) ∧ S.2.2.1 (m + 4) = (1, 300) ∧ S.2.2.1 (m + 5) = (1, 160) ∧ S.2.2.1 (m + 6) = (1, 9) ∧ S.2.2.1 (m + 7) = (2, 330) ∧ S.2.2.1 (m + 8) = (3, 330) ∧ S.2.2.1 (m + 9) = (1, 141) ∧ S.2.2.1 (m + 10) = (1, 5) ∧ S.2.2.1 (m + 11) = (1, 5)
def RIr (m : Nat) (f : Nat → Int) : Prop := f 0 = ((m + 1 : Nat) : Int) ∧ f 1 = ((m + 2 : Nat) : Int) ∧ f 2 = ((m + 3 : Nat) : Int) ∧ f 3 = ((m + 4 : Nat) : Int) ∧ f 15 = ((m + 5 : Nat) : Int) ∧ f 20 = ((m + 6 : Nat) : Int) ∧ f 21 = ((m + 7 : Nat) : Int) ∧ f 22 = ((m + 8 : Nat) : Int) ∧ f 25 = ((m + 9 : Nat) : Int) ∧ f 26 = ((m + 10 : Nat) : Int) ∧ f 27 = ((m + 11 : Nat) : Int)
def RI (m : Nat) (S : jSt) (F : Nat → Nat → Int) : Prop := RIt m S ∧ RIr m (F 0)
abbrev rS (m : Nat) (S : jSt) (F : Nat → Nat → Int) : jSt := gS m 12 S F
theorem RI_up {m : Nat} {S : jSt} {F : Nat → Nat → Int} {i : Nat} {v : Nat → Int} (R : RI m S F) (hi : 0 ≠ i) : RI m S (va_up F i v) := by
  refine ⟨R.1, ?_⟩
  rw [va_up_ne _ _ hi]
  exact R.2
theorem RI_up0 {m : Nat} {S : jSt} {F : Nat → Nat → Int} {k : Nat} {z : Int} (R : RI m S F) (hk : k ∉ [0, 1, 2, 3, 15, 20, 21, 22, 25, 26, 27]) : RI m S (va_up F 0 (va_up (F 0) k z)) := by
  refine ⟨R.1, ?_⟩
  rw [va_up_self]
  simp only [List.mem_cons, List.not_mem_nil, or_false, not_or] at hk
  obtain ⟨h0, h1, h2, h3, h4, h5, h6, h7, h8, h9, h10⟩ := hk
  obtain ⟨q0, q1, q2, q3, q4, q5, q6, q7, q8, q9, q10⟩ := R.2
  refine ⟨?_, ?_, ?_, ?_, ?_, ?_, ?_, ?_, ?_, ?_, ?_⟩ <;> (rw [va_up_ne _ _ (by omega)]; assumption)
section RR
variable {m : Nat} {S : jSt} {F : Nat → Nat → Int}
theorem m0 (m : Nat) : ((m + 0 : Nat) : Int) = (m : Int) := rfl
theorem r_a {f : Int → Option (Int × jSt)} (R : RI m S F) : fgetr (rS m S F) (m : Int) 12 0 f = f ((m + 1 : Nat) : Int) := g_getr (i := 0) (by omega) R.1.1 R.2.1 (by omega)
theorem r_im {f : Int → Option (Int × jSt)} (R : RI m S F) : fgetr (rS m S F) (m : Int) 12 1 f = f ((m + 2 : Nat) : Int) := g_getr (i := 0) (by omega) R.1.1 R.2.2.1 (by omega)
theorem r_tx {f : Int → Option (Int × jSt)} (R : RI m S F) : fgetr (rS m S F) (m : Int) 12 2 f = f ((m + 3 : Nat) : Int) := g_getr (i := 0) (by omega) R.1.1 R.2.2.2.1 (by omega)
theorem r_tp {f : Int → Option (Int × jSt)} (R : RI m S F) : fgetr (rS m S F) (m : Int) 12 3 f = f ((m + 4 : Nat) : Int) := g_getr (i := 0) (by omega) R.1.1 R.2.2.2.2.1 (by omega)
theorem r_pl {f : Int → Option (Int × jSt)} (R : RI m S F) : fgetr (rS m S F) (m : Int) 12 15 f = f ((m + 5 : Nat) : Int) := g_getr (i := 0) (by omega) R.1.1 R.2.2.2.2.2.1 (by omega)
theorem r_nm {f : Int → Option (Int × jSt)} (R : RI m S F) : fgetr (rS m S F) (m : Int) 12 20 f = f ((m + 6 : Nat) : Int) := g_getr (i := 0) (by omega) R.1.1 R.2.2.2.2.2.2.1 (by omega)
theorem r_vl {f : Int → Option (Int × jSt)} (R : RI m S F) : fgetr (rS m S F) (m : Int) 12 21 f = f ((m + 7 : Nat) : Int) := g_getr (i := 0) (by omega) R.1.1 R.2.2.2.2.2.2.2.1 (by omega)
theorem r_tr {f : Int → Option (Int × jSt)} (R : RI m S F) : fgetr (rS m S F) (m : Int) 12 22 f = f ((m + 8 : Nat) : Int) := g_getr (i := 0) (by omega) R.1.1 R.2.2.2.2.2.2.2.2.1 (by omega)
theorem r_as {f : Int → Option (Int × jSt)} (R : RI m S F) : fgetr (rS m S F) (m : Int) 12 25 f = f ((m + 9 : Nat) : Int) := g_getr (i := 0) (by omega) R.1.1 R.2.2.2.2.2.2.2.2.2.1 (by omega)
theorem r_tu {f : Int → Option (Int × jSt)} (R : RI m S F) : fgetr (rS m S F) (m : Int) 12 26 f = f ((m + 10 : Nat) : Int) := g_getr (i := 0) (by omega) R.1.1 R.2.2.2.2.2.2.2.2.2.2.1 (by omega)
theorem r_bt {f : Int → Option (Int × jSt)} (R : RI m S F) : fgetr (rS m S F) (m : Int) 12 27 f = f ((m + 11 : Nat) : Int) := g_getr (i := 0) (by omega) R.1.1 R.2.2.2.2.2.2.2.2.2.2.2 (by omega)
theorem r_cv {o : Option (Int × jSt)} {k : Int → jSt → Option (Int × jSt)} (R : RI m S F) : fcallv (rS m S F) (m : Int) 12 o k = fcall o k := g_callv (i := 0) R.1.1
theorem r_g {k : Nat} {f : Int → Option (Int × jSt)} (R : RI m S F) : fget (rS m S F) (m : Int) 12 k f = f (F 0 k) := g_get (i := 0) (by omega) R.1.1
theorem r_p {k : Nat} {z : Int} {f : jSt → Option (Int × jSt)} (R : RI m S F) : fput (rS m S F) (m : Int) 12 k z f = f (rS m S (va_up F 0 (va_up (F 0) k z))) := g_put (i := 0) (by omega) R.1.1
theorem r_al {j : Int} {f : Int → Option (Int × jSt)} (R : RI m S F) (h0 : 0 ≤ j) (h1 : j < 4903) : fald (rS m S F) ((m + 1 : Nat) : Int) j 1 f = f (F 1 j.toNat) := g_ald (by omega) R.1.2.1 h0 h1
theorem r_st {j z : Int} {f : jSt → Option (Int × jSt)} (R : RI m S F) (h0 : 0 ≤ j) (h1 : j < 4903) : fast (rS m S F) ((m + 1 : Nat) : Int) j 1 z f = f (rS m S (va_up F 1 (va_up (F 1) j.toNat z))) := g_ast (by omega) R.1.2.1 h0 h1
end RR
-- small ones without a heap
def b01 (c : Prop) [Decidable c] : Int := if c then 1 else 0
theorem s_isIn (v lo hi : Int) (S : jSt) : f_X12_isIn v lo hi S = some (b01 (lo ≤ v ∧ v ≤ hi), S) := by
  unfold f_X12_isIn f_X12_isIn_b14 f_X12_isIn_b15 b01
  by_cases h1 : v < lo
  · rw [if_pos h1, if_neg (by omega)]
  · rw [if_neg h1]
    by_cases h2 : hi < v
    · rw [if_pos h2, if_neg (by omega)]
    · rw [if_neg h2, if_pos (by omega)]
theorem s_within (v lo hi : Int) (S : jSt) : f_X11_within v lo hi S = some (b01 (lo ≤ v ∧ v ≤ hi), S) := by
  unfold f_X11_within f_X11_within_b14 f_X11_within_b15 b01
  by_cases h1 : v < lo
  · rw [if_pos h1, if_neg (by omega)]
  · rw [if_neg h1]
    by_cases h2 : hi < v
    · rw [if_pos h2, if_neg (by omega)]
    · rw [if_neg h2, if_pos (by omega)]
theorem s_isFloor (v : Int) (S : jSt) : f_X12_isFloor v S = some (b01 (0 ≤ v ∧ v ≤ 5), S) := by
  unfold f_X12_isFloor
  rw [s_isIn, fcall_some]
theorem b01_0 {c : Prop} [Decidable c] : b01 c = 0 ↔ ¬ c := by
  unfold b01
  by_cases h : c <;> simp [h]
theorem s_held (v lo hi : Int) (S : jSt) (h1 : R32 lo) (h2 : R32 hi) : f_X12_held v lo hi S = some (if v < lo then lo else if hi < v then hi else v, S) := by
  unfold f_X12_held f_X12_held_b24
  by_cases q : lo ≤ v
  · rw [if_pos q, if_neg (show ¬ v < lo by omega)]
    by_cases q2 : v ≤ hi
    · rw [if_pos q2, if_neg (show ¬ hi < v by omega), w32_of (by unfold R32 at h1; omega) (by unfold R32 at h2; omega)]
    · rw [if_neg q2, if_pos (show hi < v by omega)]
  · rw [if_neg q, if_pos (show v < lo by omega)]
section RG
variable {m : Nat} {S : jSt} {F : Nat → Nat → Int}
theorem s_get (R : RI m S F) {l w : Int} (hl : 0 ≤ l) (hl2 : l < 12) (hw : 0 ≤ w) (hw2 : w < 5) : f_X12_get (m : Int) l w (rS m S F) = some (F 1 (11 + 5 * l.toNat + w.toNat), rS m S F) := by
  unfold f_X12_get
  rw [r_a R, w32_of (z := 5 * l) (by omega) (by omega), w32_of (z := 11 + 5 * l) (by omega) (by omega), w32_of (by omega) (by omega), r_al R (by omega) (by omega), show (11 + 5 * l + w).toNat = 11 + 5 * l.toNat + w.toNat by omega]
theorem s_put (R : RI m S F) {l w z : Int} (hl : 0 ≤ l) (hl2 : l < 12) (hw : 0 ≤ w) (hw2 : w < 5) : f_X12_put (m : Int) l w z (rS m S F) = some (0, rS m S (va_up F 1 (va_up (F 1) (11 + 5 * l.toNat + w.toNat) z))) := by
  unfold f_X12_put
  rw [r_a R, w32_of (z := 5 * l) (by omega) (by omega), w32_of (z := 11 + 5 * l) (by omega) (by omega), w32_of (by omega) (by omega), r_st R (by omega) (by omega), show (11 + 5 * l + w).toNat = 11 + 5 * l.toNat + w.toNat by omega]
theorem s_own (R : RI m S F) {b w : Int} (hl : 0 ≤ b) (hl2 : b < 5) (hw : 0 ≤ w) (hw2 : w < 14) : f_X12_own (m : Int) b w (rS m S F) = some (F 1 (71 + 14 * b.toNat + w.toNat), rS m S F) := by
  unfold f_X12_own
  rw [r_a R, w32_of (z := 14 * b) (by omega) (by omega), w32_of (z := 71 + 14 * b) (by omega) (by omega), w32_of (by omega) (by omega), r_al R (by omega) (by omega), show (71 + 14 * b + w).toNat = 71 + 14 * b.toNat + w.toNat by omega]
theorem s_lay (R : RI m S F) {b w z : Int} (hl : 0 ≤ b) (hl2 : b < 5) (hw : 0 ≤ w) (hw2 : w < 14) : f_X12_lay (m : Int) b w z (rS m S F) = some (0, rS m S (va_up F 1 (va_up (F 1) (71 + 14 * b.toNat + w.toNat) z))) := by
  unfold f_X12_lay
  rw [r_a R, w32_of (z := 14 * b) (by omega) (by omega), w32_of (z := 71 + 14 * b) (by omega) (by omega), w32_of (by omega) (by omega), r_st R (by omega) (by omega), show (71 + 14 * b + w).toNat = 71 + 14 * b.toNat + w.toNat by omega]
end RG
