-- a script is made: five new cells
theorem gS_new {x N : Nat} {S : jSt} {C : Nat → Nat → Int} (h : x + N ≤ S.1) (t : Nat × Nat) (n : Nat) (v : Nat → Int) : jnewS (gS x N S C) t n v = gS x N (jnewS S t n v) C := by
  unfold jnewS gS
  show ((S.1 + 1, S.2.1 + n, va_up S.2.2.1 S.1 t, va_up (fun p => if x ≤ p ∧ p < x + N then C (p - x) else S.2.2.2 p) S.1 v) : jSt) = (S.1 + 1, S.2.1 + n, va_up S.2.2.1 S.1 t, fun p => if x ≤ p ∧ p < x + N then C (p - x) else va_up S.2.2.2 S.1 v p)
  congr 3
  funext p
  unfold va_up
  by_cases hp : p = S.1
  · rw [if_pos hp, if_neg (by omega), if_pos hp]
  · rw [if_neg hp]
    by_cases hr : x ≤ p ∧ p < x + N
    · simp only [if_pos hr]
    · simp only [if_neg hr, if_neg hp]
theorem gS_putO {x N : Nat} {S : jSt} {C : Nat → Nat → Int} {p : Nat} (h : x + N ≤ p) (k : Nat) (z : Int) : jput (gS x N S C) (p : Int) k z = gS x N (jput S (p : Int) k z) C := by
  unfold jput gS
  rw [Int.toNat_natCast]
  show ((S.1, S.2.1, S.2.2.1, va_up (fun p => if x ≤ p ∧ p < x + N then C (p - x) else S.2.2.2 p) p (va_up ((fun p => if x ≤ p ∧ p < x + N then C (p - x) else S.2.2.2 p) p) k z)) : jSt) = (S.1, S.2.1, S.2.2.1, fun q => if x ≤ q ∧ q < x + N then C (q - x) else va_up S.2.2.2 p (va_up (S.2.2.2 p) k z) q)
  congr 3
  funext q
  unfold va_up
  by_cases hq : q = p
  · subst hq
    rw [if_pos rfl, if_neg (show ¬ (x ≤ q ∧ q < x + N) by omega), if_pos rfl]
    simp only [if_neg (show ¬ (x ≤ q ∧ q < x + N) by omega)]
  · rw [if_neg hq]
    by_cases hr : x ≤ q ∧ q < x + N
    · simp only [if_pos hr]
    · simp only [if_neg hr, if_neg hq]
def NewA (S S' : jSt) (t : Nat × Nat) (n : Nat) (v : Nat → Int) : Prop := S'.1 = S.1 + 1 ∧ S'.2.1 = S.2.1 + n ∧ (∀ p, p ≠ S.1 → S'.2.2.1 p = S.2.2.1 p ∧ S'.2.2.2 p = S.2.2.2 p) ∧ S'.2.2.1 S.1 = t ∧ ∀ j, j < n → S'.2.2.2 S.1 j = v j
theorem NewA_n (S : jSt) (t : Nat × Nat) (n : Nat) (v : Nat → Int) : NewA S (jnewS S t n v) t n v := by
  unfold jnewS
  refine ⟨rfl, rfl, fun p hp => ⟨va_up_ne _ _ hp, va_up_ne _ _ hp⟩, va_up_self _ _ _, fun j _ => ?_⟩
  show va_up S.2.2.2 S.1 v S.1 j = v j
  rw [va_up_self]
theorem CI_S {x : Nat} {S S' : jSt} {C : Nat → Nat → Int} (I : CI x S C) (h : ∀ p, x ≤ p → p < x + 426 → S'.2.2.1 p = S.2.2.1 p) : CI x S' C := ⟨fun i hi => (h (x + i) (by omega) (by omega)).trans (I.1 i hi), I.2⟩
section SC
variable {x : Nat} {S : jSt} {C : Nat → Nat → Int}
theorem c_clone (I : CI x S C) (hS : x + 426 ≤ S.1) {i N : Nat} (hi : i < 426) (ht : ctyp i = (1, N)) {f : Int → jSt → Option (Int × jSt)} : fclone (cS x S C) ((x + i : Nat) : Int) f = f (S.1 : Int) (cS x (jnewS S (1, N) N (C i)) C) := by
  have e : jty (cS x S C) ((x + i : Nat) : Int) = (1, N) := by rw [gS_ty, gS_tyn]; exact (I.1 i hi).trans ht
  have e2 : (cS x S C).2.2.2 ((x + i : Nat) : Int).toNat = C i := by
    funext k
    exact gS_g hi k
  unfold fclone
  rw [e, if_pos rfl, e2, gS_new hS]
  rfl
theorem c_newa (hS : x + 426 ≤ S.1) {k : Nat} (hk : k ≤ 65536) {f : Int → jSt → Option (Int × jSt)} : fnewa (cS x S C) 1 (k : Int) f = f (S.1 : Int) (cS x (jnewS S (1, k) k (fun _ => 0)) C) := by
  unfold fnewa
  rw [if_pos (by omega), toNat_z, gS_new hS]
  rfl
theorem c_new6 (hS : x + 426 ≤ S.1) {f : Int → jSt → Option (Int × jSt)} : fnew (cS x S C) 6 f = f (S.1 : Int) (cS x (jnewS S (0, 6) (jnO 6) (fun k => jdf (jtyO 6 k))) C) := by
  unfold fnew
  rw [gS_new hS]
  rfl
theorem c_copyOf (I : CI x S C) (hS : x + 426 ≤ S.1) {i N k : Nat} (hi : i < 426) (ht : ctyp i = (1, N)) (hk : k ≤ N) (hN : N ≤ 300) : ∃ S', f_J7_copyOf_59c91 ((x + i : Nat) : Int) (k : Int) (cS x S C) = some ((S.1 : Int), cS x S' C) ∧ NewA S S' (1, k) k (C i) := by
  unfold f_J7_copyOf_59c91
  rw [c_ln I hi ht (by omega)]
  by_cases e : k = N
  · subst e
    rw [if_pos rfl, c_clone I hS hi ht]
    exact ⟨_, rfl, NewA_n _ _ _ _⟩
  · rw [if_neg (by omega)]
    rw [c_newa hS (by omega)]
    have I1 : CI x (jnewS S (1, k) k (fun _ => 0)) C := CI_S I (fun p h1 h2 => va_up_ne _ _ (by omega))
    rw [c_ln I1 hi ht (by omega)]
    have em : imin (N : Int) (k : Int) = (k : Int) := by
      unfold imin
      rw [if_pos (by omega)]
    rw [em]
    unfold fcopy
    have ty1 : jty (gS x 426 (jnewS S (1, k) k (fun _ => 0)) C) ((x + i : Nat) : Int) = (1, N) := by rw [gS_ty, gS_tyn]; exact (I1.1 i hi).trans ht
    have ty2 : jty (gS x 426 (jnewS S (1, k) k (fun _ => 0)) C) (S.1 : Int) = (1, k) := by
      rw [gS_ty, gS_tyn]
      exact va_up_self _ _ _
    rw [ty1, ty2, if_pos ⟨⟨rfl, rfl⟩, ⟨by omega, by omega, by omega⟩, by show (0 : Int) + (k : Int) ≤ (N : Int); omega, by show (0 : Int) + (k : Int) ≤ (k : Int); omega⟩]
    refine ⟨(S.1 + 1, S.2.1 + k, va_up S.2.2.1 S.1 (1, k), va_up S.2.2.2 S.1 (va_cpy (C i) (fun _ => 0) 0 0 k)), ?_, rfl, rfl, fun p hp => ⟨va_up_ne _ _ hp, va_up_ne _ _ hp⟩, va_up_self _ _ _, fun j hj => ?_⟩
    · refine congrArg (fun z => some ((S.1 : Int), z)) ?_
      rw [toNat_z, toNat_z, toNat_z, show (0 : Int).toNat = 0 from rfl]
      unfold cS gS jnewS
      show ((S.1 + 1, S.2.1 + k, va_up S.2.2.1 S.1 (1, k), va_up (fun p => if x ≤ p ∧ p < x + 426 then C (p - x) else va_up S.2.2.2 S.1 (fun _ => 0) p) S.1 (va_cpy (if x ≤ x + i ∧ x + i < x + 426 then C (x + i - x) else va_up S.2.2.2 S.1 (fun _ => 0) (x + i)) (if x ≤ S.1 ∧ S.1 < x + 426 then C (S.1 - x) else va_up S.2.2.2 S.1 (fun _ => 0) S.1) 0 0 k)) : jSt) = (S.1 + 1, S.2.1 + k, va_up S.2.2.1 S.1 (1, k), fun p => if x ≤ p ∧ p < x + 426 then C (p - x) else va_up S.2.2.2 S.1 (va_cpy (C i) (fun _ => 0) 0 0 k) p)
      rw [if_pos ⟨by omega, by omega⟩, if_neg (by omega), Nat.add_sub_cancel_left, va_up_self]
      congr 3
      funext p
      by_cases hp : p = S.1
      · subst hp
        rw [va_up_self, if_neg (by omega), va_up_self]
      · rw [va_up_ne _ _ hp]
        by_cases hr : x ≤ p ∧ p < x + 426
        · rw [if_pos hr, if_pos hr]
        · rw [if_neg hr, if_neg hr, va_up_ne _ _ hp, va_up_ne _ _ hp]
    · show va_up S.2.2.2 S.1 (va_cpy (C i) (fun _ => 0) 0 0 k) S.1 j = C i j
      rw [va_up_self]
      unfold va_cpy
      rw [if_pos (by omega)]
      congr 1
      omega
theorem o_put {p ci k : Nat} {z : Int} {f : jSt → Option (Int × jSt)} (hp : x + 426 ≤ p) (ht : S.2.2.1 p = (0, ci)) : fput (cS x S C) (p : Int) ci k z f = f (cS x (jput S (p : Int) k z) C) := by
  unfold fput
  rw [gS_ty, gS_tyn, if_pos ht, gS_putO hp]
theorem jput_o (p k : Nat) (z : Int) : (jput S (p : Int) k z).1 = S.1 ∧ (jput S (p : Int) k z).2.1 = S.2.1 ∧ (jput S (p : Int) k z).2.2.1 = S.2.2.1 ∧ (jput S (p : Int) k z).2.2.2 = va_up S.2.2.2 p (va_up (S.2.2.2 p) k z) := by
  unfold jput
  rw [Int.toNat_natCast]
  exact ⟨rfl, rfl, rfl, rfl⟩
theorem c_script {x' n q : Nat} {V : Nat → Option Den} {rws : Nat → Row} (hS : x + 426 ≤ S.1) (hx : x' ≤ S.1) (I : CI x S C) (h5 : C 408 5 = (n : Int)) (h6 : C 408 6 = (q : Int)) (hq : q ≤ 300) (hn : n ≤ 24) (hL : LawC C q V) (hR : RowsC (C 409) n rws) : ∃ S', f_X4_script ((x + 408 : Nat) : Int) (cS x S C) = some ((S.1 : Int), cS x S' C) ∧ (S'.1 = S.1 + 5 ∧ S'.2.1 ≤ S.2.1 + 500) ∧ (∀ p, p < S.1 → S'.2.2.1 p = S.2.2.1 p ∧ S'.2.2.2 p = S.2.2.2 p) ∧ ScO x' S' S.1 n V rws := by
  unfold f_X4_script
  rw [c_new6 hS]
  have N1 := NewA_n S (0, 6) (jnO 6) (fun k => jdf (jtyO 6 k))
  generalize jnewS S (0, 6) (jnO 6) (fun k => jdf (jtyO 6 k)) = S1 at *
  obtain ⟨a1, b1, c1, d1, _⟩ := N1
  have I1 : CI x S1 C := CI_S I (fun p q1 q2 => (c1 p (by omega)).1)
  rw [cg_408 I1, h5, cr408_7 I1, cg_408 I1, h5, w32_of (by omega) (by omega), show (n : Int) * 4 = ((4 * n : Nat) : Int) by omega]
  obtain ⟨S2, v2, N2⟩ := c_copyOf I1 (by omega) (i := 409) (N := 96) (k := 4 * n) (by decide) rfl (by omega) (by omega)
  obtain ⟨a2, b2, c2, d2, e2⟩ := N2
  have I2 : CI x S2 C := CI_S I1 (fun p q1 q2 => (c2 p (by omega)).1)
  rw [v2, fcall_some, if_pos (by omega), cr408_8 I2, cg_408 I2, h6]
  obtain ⟨S3, v3, N3⟩ := c_copyOf I2 (by omega) (i := 410) (N := 300) (k := q) (by decide) rfl (by omega) (by omega)
  obtain ⟨a3, b3, c3, d3, e3⟩ := N3
  have I3 : CI x S3 C := CI_S I2 (fun p q1 q2 => (c3 p (by omega)).1)
  rw [v3, fcall_some, if_pos (by omega), cr408_9 I3, c_clone I3 (by omega) (i := 411) (N := 4) (by decide) rfl]
  have N4 := NewA_n S3 (1, 4) 4 (C 411)
  generalize jnewS S3 (1, 4) 4 (C 411) = S4 at *
  obtain ⟨a4, b4, c4, d4, e4⟩ := N4
  have I4 : CI x S4 C := CI_S I3 (fun p q1 q2 => (c4 p (by omega)).1)
  rw [cr408_10 I4, c_clone I4 (by omega) (i := 412) (N := 4) (by decide) rfl]
  have N5 := NewA_n S4 (1, 4) 4 (C 412)
  generalize jnewS S4 (1, 4) 4 (C 412) = S5 at *
  obtain ⟨a5, b5, c5, d5, e5⟩ := N5
  unfold f_X6_init
  have k5 : S5.2.2.1 S.1 = (0, 6) := by rw [(c5 S.1 (by omega)).1, (c4 S.1 (by omega)).1, (c3 S.1 (by omega)).1, (c2 S.1 (by omega)).1, d1]
  have jo : ∀ (Z : jSt) (k : Nat) (z : Int), Z.2.2.1 S.1 = (0, 6) → (jput Z (S.1 : Int) k z).2.2.1 S.1 = (0, 6) := fun Z k z hz => by rw [(jput_o (S := Z) S.1 k z).2.2.1]; exact hz
  rw [o_put hS k5, o_put hS (jo _ _ _ k5), o_put hS (jo _ _ _ (jo _ _ _ k5)), o_put hS (jo _ _ _ (jo _ _ _ (jo _ _ _ k5))), o_put hS (jo _ _ _ (jo _ _ _ (jo _ _ _ (jo _ _ _ k5)))), fcall_some]
  generalize hS6 : jput (jput (jput (jput (jput S5 (S.1 : Int) 0 (n : Int)) (S.1 : Int) 1 (S1.1 : Int)) (S.1 : Int) 2 (S2.1 : Int)) (S.1 : Int) 3 (S3.1 : Int)) (S.1 : Int) 4 (S4.1 : Int) = S6
  have q0 : S6.1 = S5.1 ∧ S6.2.1 = S5.2.1 ∧ S6.2.2.1 = S5.2.2.1 := by
    rw [← hS6]
    simp only [(jput_o _ _ _).1, (jput_o _ _ _).2.1, (jput_o _ _ _).2.2.1]
    exact ⟨trivial, trivial, trivial⟩
  have q4 : S6.2.2.2 = va_up S5.2.2.2 S.1 (va_up (va_up (va_up (va_up (va_up (S5.2.2.2 S.1) 0 (n : Int)) 1 (S1.1 : Int)) 2 (S2.1 : Int)) 3 (S3.1 : Int)) 4 (S4.1 : Int)) := by
    rw [← hS6]
    simp only [(jput_o _ _ _).2.2.2, va_up_self, va_uu]
  have qo : ∀ p, p ≠ S.1 → S6.2.2.2 p = S5.2.2.2 p := fun p hp => by rw [q4, va_up_ne _ _ hp]
  have x2 : S6.2.2.2 S1.1 = S2.2.2.2 S1.1 := by rw [qo S1.1 (by omega), (c5 S1.1 (by omega)).2, (c4 S1.1 (by omega)).2, (c3 S1.1 (by omega)).2]
  have x3 : S6.2.2.2 S2.1 = S3.2.2.2 S2.1 := by rw [qo S2.1 (by omega), (c5 S2.1 (by omega)).2, (c4 S2.1 (by omega)).2]
  have x4 : S6.2.2.2 S3.1 = S4.2.2.2 S3.1 := by rw [qo S3.1 (by omega), (c5 S3.1 (by omega)).2]
  have x5 : S6.2.2.2 S4.1 = S5.2.2.2 S4.1 := qo S4.1 (by omega)
  have jn6 : jnO 6 = 5 := rfl
  refine ⟨S6, rfl, ⟨by omega, by omega⟩, fun p hp => ⟨?_, ?_⟩, q, S1.1, S2.1, S3.1, S4.1, ⟨hx, by omega, by omega, by omega, by omega⟩, ⟨by omega, by omega, by omega, by omega, by omega⟩, by rw [q0.2.2]; exact k5, ⟨?_, ?_, ?_, ?_, ?_⟩, ⟨?_, ?_, ?_, ?_⟩, ⟨hn, by omega⟩, fun i hi => ?_, fun s hs => ⟨fun hv => ?_, fun d hd => ?_⟩⟩
  · rw [q0.2.2, (c5 p (by omega)).1, (c4 p (by omega)).1, (c3 p (by omega)).1, (c2 p (by omega)).1, (c1 p (by omega)).1]
  · rw [qo p (by omega), (c5 p (by omega)).2, (c4 p (by omega)).2, (c3 p (by omega)).2, (c2 p (by omega)).2, (c1 p (by omega)).2]
  · rw [q4, va_up_self]; rfl
  · rw [q4, va_up_self]; rfl
  · rw [q4, va_up_self]; rfl
  · rw [q4, va_up_self]; rfl
  · rw [q4, va_up_self]; rfl
  · rw [q0.2.2, (c5 S1.1 (by omega)).1, (c4 S1.1 (by omega)).1, (c3 S1.1 (by omega)).1, d2]
  · rw [q0.2.2, (c5 S2.1 (by omega)).1, (c4 S2.1 (by omega)).1, d3]
  · rw [q0.2.2, (c5 S3.1 (by omega)).1, d4]
  · rw [q0.2.2, d5]
  · obtain ⟨y1, y2, y3, y4⟩ := hR i hi
    have nb : ncl (rws i).1 ≤ 3 := by unfold ncl; (repeat' split) <;> omega
    rw [x2]
    exact ⟨y1, by rw [e2 _ (by omega), y2], fun c h1 h2 => by rw [e2 _ (by omega), y3 c h1 h2], y4⟩
  · obtain ⟨z1, z2⟩ := (hL s hs).1 hv
    rw [x4, x5, e4 _ (by omega), e5 _ (by omega)]
    exact ⟨z1, z2⟩
  · obtain ⟨a, b, z1, z2, z3, z4, z5, z6⟩ := (hL s hs).2 d hd
    refine ⟨a, b, by rw [x4, e4 _ (by omega), z1], by rw [x5, e5 _ (by omega), z2], z3, z4, ?_, z6⟩
    rw [x3]
    exact Seg_c z5 (fun i h1 h2 => e3 i (by omega))
end SC
