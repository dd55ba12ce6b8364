-- foretold: what a week without a book changes
section FO
variable {x : Nat} {a : Nat → Int}
theorem pasS_hi (V : LwV) (f : Int) (W : Wf a) {k : Nat} (hk : 4843 ≤ k) : ∀ n : Nat, (n : Int) ≤ a 0 → (pasS false V f a n).1 k = a k
  | 0, _ => rfl
  | n + 1, h => by
    have ih := pasS_hi V f W hk n (by omega)
    have p0 : (pasS false V f a n).1 0 = a 0 := pasS_lo false V f a (by omega) n
    have p1 : (pasS false V f a n).1 1 = a 1 := pasS_lo false V f a (by omega) n
    have w0 := W.1.1
    have w1 := W.1.2.1
    have Wn := Wf_pasS false V f W n (by omega)
    unfold pasS
    split
    · have Ww := Wf_warm V Wn (l := n) (by rw [p0]; omega) (by rw [p1]; omega)
      have e1 : warmA (pasS false V f a n).1 V n k = (pasS false V f a n).1 k := by
        unfold warmA anewA
        have m1 : ((pasS false V f a n).1 9 % 10 % (pasS false V f a n).1 1).toNat < 5 := by
          have := Int.emod_lt_of_pos ((pasS false V f a n).1 9 % 10) (show 0 < (pasS false V f a n).1 1 by rw [p1]; omega)
          omega
        split
        · rw [va_up_ne _ _ (by omega), va_up_ne _ _ (by omega)]
        · rw [va_up_ne _ _ (by omega)]
      have q1 : warmA (pasS false V f a n).1 V n 1 = a 1 := by rw [warmA_lo _ _ _ (by omega) (by omega), p1]
      show selA false _ V n k = _
      unfold selA
      split
      · rw [e1, ih]
      · rename_i hw
        have wn := (winv_n (V := V) Ww n).resolve_left hw
        rw [q1] at wn
        unfold soldA
        rw [if_neg (by decide), va_up_ne _ _ (by omega), va_up_ne _ _ (by omega), va_up_ne _ _ (by omega), e1, ih]
    · exact ih
/-- a week without a book stays within 7 .. 140 -/
theorem pasA_out (V : LwV) (W : Wf a) {k : Nat} (hk : k < 7 ∨ 141 ≤ k) : pasA false V a k = a k := by
  have w0 := W.1.1
  have w1 := W.1.2.1
  by_cases h : 4843 ≤ k
  · unfold pasA
    rw [va_up_ne _ _ (by omega), pasS_hi V (sfl a) W h _ (by omega)]
  · refine Decidable.byContradiction (fun z => ?_)
    have := Dd_pas W false V k z
    rcases this with q | ⟨l, q1, q2⟩ | ⟨b, w, q1, q2, q3⟩ | q <;> omega
def foA (V : LwV) (a : Nat → Int) : Nat → (Nat → Int)
  | 0 => a
  | n + 1 => pasA false V (foA V a n)
def foN (V : LwV) (a : Nat → Int) : Nat → Int
  | 0 => 0
  | n + 1 => foN V a n + pasN false V (foA V a n)
theorem foA_b (V : LwV) (W : Wf a) : ∀ n : Nat, a 7 + n ≤ 9999 → Wf (foA V a n) ∧ foA V a n 7 = a 7 + n ∧ (∀ k, (k < 7 ∨ 141 ≤ k) → foA V a n k = a k) ∧ 0 ≤ foN V a n ∧ foN V a n ≤ 12 * (n : Int)
  | 0, _ => ⟨W, by show a 7 = a 7 + ((0 : Nat) : Int); omega, fun _ _ => rfl, by show (0 : Int) ≤ 0; omega, by show (0 : Int) ≤ 12 * ((0 : Nat) : Int); omega⟩
  | n + 1, h => by
    obtain ⟨i1, i2, i3, i4, i5⟩ := foA_b V W n (by omega)
    have pn := pasS_n false V (sfl (foA V a n)) (foA V a n) (foA V a n 0).toNat
    have w0 := i1.1.1
    have e : foN V a (n + 1) = foN V a n + (pasS false V (sfl (foA V a n)) (foA V a n) (foA V a n 0).toNat).2 := rfl
    refine ⟨Wf_pas false V i1 (by omega), ?_, fun k hk => ?_, by omega, by omega⟩
    · show pasA false V (foA V a n) 7 = _
      rw [pasA_7, i2]
      omega
    · show pasA false V (foA V a n) k = _
      rw [pasA_out V i1 hk, i3 k hk]
end FO
