-- THE REFERENCE'S NUMBER OF A LAW
def bdv (z : Int) : Prop := -1000000 ≤ z ∧ z ≤ 1000000
def SvR (f : Nat → Int) (e : Nat → Int) (w : Int → Int) : List Den → Prop
  | [] => True
  | d :: r => (f r.length = d e w ∧ bdv (d e w)) ∧ SvR f e w r
def SbR (f : Nat → Int) (e : Nat → Int) (w : Int → Int) : List BDen → Prop
  | [] => True
  | b :: r => f r.length = (if b e w = true then 1 else 0) ∧ SbR f e w r
theorem SvR_up (f : Nat → Int) (e : Nat → Int) (w : Int → Int) (z : Int) : ∀ (P : List Den) (n : Nat), P.length ≤ n → SvR f e w P → SvR (va_up f n z) e w P
  | [], _, _, _ => trivial
  | d :: P, n, h, q => by
    rw [List.length_cons] at h
    exact ⟨⟨by rw [va_up_ne _ _ (by omega)]; exact q.1.1, q.1.2⟩, SvR_up f e w z P n (by omega) q.2⟩
theorem SbR_up (f : Nat → Int) (e : Nat → Int) (w : Int → Int) (z : Int) : ∀ (P : List BDen) (n : Nat), P.length ≤ n → SbR f e w P → SbR (va_up f n z) e w P
  | [], _, _, _ => trivial
  | d :: P, n, h, q => by
    rw [List.length_cons] at h
    exact ⟨by rw [va_up_ne _ _ (by omega)]; exact q.1, SbR_up f e w z P n (by omega) q.2⟩
/-- the ways of a code, one by one -/
theorem sx_way {o : Nat} {v : Int} {s s' : SS} (h : sx o v s = some s') :
    (o = 0 ∧ s' = ((fun _ _ => v) :: s.1, s.2)) ∨ (o = 1 ∧ s' = ((fun e _ => e v.toNat) :: s.1, s.2)) ∨
    (o = 2 ∧ ∃ d r, s.1 = d :: r ∧ s' = ((fun e w => w (d e w)) :: r, s.2)) ∨
    (o = 3 ∧ ∃ d2 d1 r b t, s.1 = d2 :: d1 :: r ∧ s.2 = b :: t ∧ s' = ((fun e w => if b e w = true then d1 e w else d2 e w) :: r, t)) ∨
    (o = 4 ∧ ∃ d2 d1 r, s.1 = d2 :: d1 :: r ∧ s' = ((fun e w => evn (d1 e w) (d2 e w)) :: r, s.2)) ∨
    (o = 5 ∧ ∃ d r, s.1 = d :: r ∧ s' = ((fun e w => - d e w) :: r, s.2)) ∨
    ((6 ≤ o ∧ o ≤ 9) ∧ ∃ d2 d1 r, s.1 = d2 :: d1 :: r ∧ s' = ((fun e w => ar2 o (d1 e w) (d2 e w)) :: r, s.2)) ∨
    ((10 ≤ o ∧ o < 20) ∧ ∃ d2 d1 r, s.1 = d2 :: d1 :: r ∧ s' = (r, (fun e w => cm2 o (d1 e w) (d2 e w)) :: s.2)) ∨
    (o = 20 ∧ ∃ b t, s.2 = b :: t ∧ s' = (s.1, (fun e w => !b e w) :: t)) ∨
    (20 < o ∧ ∃ b2 b1 t, s.2 = b2 :: b1 :: t ∧ s' = (s.1, (fun e w => if o = 21 then (b1 e w && b2 e w) else (b1 e w || b2 e w)) :: t)) := by
  obtain ⟨vs, bs⟩ := s
  unfold sx at h
  by_cases e0 : o = 0
  · rw [if_pos e0] at h
    injection h with h
    exact Or.inl ⟨e0, h.symm⟩
  rw [if_neg e0] at h
  by_cases e1 : o = 1
  · rw [if_pos e1] at h
    injection h with h
    exact Or.inr (Or.inl ⟨e1, h.symm⟩)
  rw [if_neg e1] at h
  by_cases e2 : o = 2
  · rw [if_pos e2] at h
    cases vs with
    | nil => cases h
    | cons d r =>
      injection h with h
      exact Or.inr (Or.inr (Or.inl ⟨e2, d, r, rfl, h.symm⟩))
  rw [if_neg e2] at h
  by_cases e3 : o = 3
  · rw [if_pos e3] at h
    cases vs with
    | nil => cases h
    | cons d2 vs =>
      cases vs with
      | nil => cases h
      | cons d1 r =>
        cases bs with
        | nil => cases h
        | cons b t =>
          injection h with h
          exact Or.inr (Or.inr (Or.inr (Or.inl ⟨e3, d2, d1, r, b, t, rfl, rfl, h.symm⟩)))
  rw [if_neg e3] at h
  by_cases e4 : o = 4
  · rw [if_pos e4] at h
    cases vs with
    | nil => cases h
    | cons d2 vs =>
      cases vs with
      | nil => cases h
      | cons d1 r =>
        injection h with h
        exact Or.inr (Or.inr (Or.inr (Or.inr (Or.inl ⟨e4, d2, d1, r, rfl, h.symm⟩))))
  rw [if_neg e4] at h
  by_cases e5 : o = 5
  · rw [if_pos e5] at h
    cases vs with
    | nil => cases h
    | cons d r =>
      injection h with h
      exact Or.inr (Or.inr (Or.inr (Or.inr (Or.inr (Or.inl ⟨e5, d, r, rfl, h.symm⟩)))))
  rw [if_neg e5] at h
  by_cases e9 : o < 10
  · rw [if_pos e9] at h
    cases vs with
    | nil => cases h
    | cons d2 vs =>
      cases vs with
      | nil => cases h
      | cons d1 r =>
        injection h with h
        exact Or.inr (Or.inr (Or.inr (Or.inr (Or.inr (Or.inr (Or.inl ⟨by omega, d2, d1, r, rfl, h.symm⟩))))))
  rw [if_neg e9] at h
  by_cases e20 : o < 20
  · rw [if_pos e20] at h
    cases vs with
    | nil => cases h
    | cons d2 vs =>
      cases vs with
      | nil => cases h
      | cons d1 r =>
        injection h with h
        exact Or.inr (Or.inr (Or.inr (Or.inr (Or.inr (Or.inr (Or.inr (Or.inl ⟨by omega, d2, d1, r, rfl, h.symm⟩)))))))
  rw [if_neg e20] at h
  by_cases e21 : o = 20
  · rw [if_pos e21] at h
    cases bs with
    | nil => cases h
    | cons b t =>
      injection h with h
      exact Or.inr (Or.inr (Or.inr (Or.inr (Or.inr (Or.inr (Or.inr (Or.inr (Or.inl ⟨e21, b, t, rfl, h.symm⟩))))))))
  rw [if_neg e21] at h
  cases bs with
  | nil => cases h
  | cons b2 bs =>
    cases bs with
    | nil => cases h
    | cons b1 t =>
      injection h with h
      exact Or.inr (Or.inr (Or.inr (Or.inr (Or.inr (Or.inr (Or.inr (Or.inr (Or.inr ⟨by omega, b2, b1, t, rfl, h.symm⟩))))))))
theorem sx_len {o : Nat} {v : Int} {s s' : SS} (h : sx o v s = some s') : s'.1.length ≤ s.1.length + 1 ∧ s'.2.length ≤ s.2.length + 1 := by
  obtain ⟨vs, bs⟩ := s
  rcases sx_way h with ⟨_, rfl⟩ | ⟨_, rfl⟩ | ⟨_, d, r, e, rfl⟩ | ⟨_, d2, d1, r, b, t, e, e', rfl⟩ | ⟨_, d2, d1, r, e, rfl⟩ | ⟨_, d, r, e, rfl⟩ | ⟨_, d2, d1, r, e, rfl⟩ | ⟨_, d2, d1, r, e, rfl⟩ | ⟨_, b, t, e, rfl⟩ | ⟨_, b2, b1, t, e, rfl⟩
  all_goals first
    | (have e2 : vs = _ := e; rw [e2]; first | (have e3 : bs = _ := e'; rw [e3]; simp only [List.length_cons]; omega) | (simp only [List.length_cons]; omega))
    | (have e2 : bs = _ := e; rw [e2]; simp only [List.length_cons]; omega)
    | (simp only [List.length_cons]; omega)
theorem cex_s {f : Nat → Int} {b lim n : Nat} {s' : SS} (h : cex f b lim (n + 1) = some s') : ∃ s, cex f b lim n = some s ∧ okc (f (b + 2 * n)) (f (b + 2 * n + 1)) lim ∧ sx (f (b + 2 * n)).toNat (f (b + 2 * n + 1)) s = some s' := by
  rw [cex] at h
  cases hc : cex f b lim n with
  | none => rw [hc] at h; cases h
  | some s =>
    rw [hc] at h
    have h' : (if okc (f (b + 2 * n)) (f (b + 2 * n + 1)) lim then sx (f (b + 2 * n)).toNat (f (b + 2 * n + 1)) s else none) = some s' := h
    by_cases ho : okc (f (b + 2 * n)) (f (b + 2 * n + 1)) lim
    · rw [if_pos ho] at h'
      exact ⟨s, rfl, ho, h'⟩
    · rw [if_neg ho] at h'; cases h'
theorem cex_p {f : Nat → Int} {b lim : Nat} : ∀ {n : Nat} {s : SS}, cex f b lim n = some s → ∀ k, k ≤ n → ∃ s', cex f b lim k = some s' ∧ s'.1.length ≤ k ∧ s'.2.length ≤ k := by
  have len : ∀ (k : Nat) (s : SS), cex f b lim k = some s → s.1.length ≤ k ∧ s.2.length ≤ k := by
    intro k
    induction k with
    | zero =>
      intro s h
      rw [cex] at h
      injection h with h
      rw [← h]
      exact ⟨Nat.le_refl _, Nat.le_refl _⟩
    | succ k ih =>
      intro s h
      obtain ⟨s0, h0, _, h2⟩ := cex_s h
      have := ih s0 h0
      have := sx_len h2
      omega
  intro n
  induction n with
  | zero =>
    intro s h k hk
    have : k = 0 := by omega
    subst this
    exact ⟨s, h, len 0 s h⟩
  | succ n ih =>
    intro s h k hk
    by_cases e : k = n + 1
    · subst e; exact ⟨s, h, len _ s h⟩
    · obtain ⟨s0, h0, _⟩ := cex_s h
      exact ih h0 k (by omega)
theorem s_clip {v : Int} (S : jSt) : f_X12_clip v S = some (clipv v, S) := by
  unfold f_X12_clip f_X12_clip_b29 clipv
  (repeat' split) <;> first | rfl | (exfalso; omega)
theorem mulb {x y : Int} (hx : bdv x) (hy : bdv y) : -1000000000000 ≤ x * y ∧ x * y ≤ 1000000000000 := by
  unfold bdv at hx hy
  have h : (x * y).natAbs ≤ 1000000 * 1000000 := by
    rw [Int.natAbs_mul]
    exact Nat.mul_le_mul (by omega) (by omega)
  omega
theorem tdivb {x y : Int} (hx : bdv x) : -1000000 ≤ x.tdiv y ∧ x.tdiv y ≤ 1000000 := by
  unfold bdv at hx
  have h : (x.tdiv y).natAbs ≤ x.natAbs := by
    rw [Int.natAbs_tdiv]
    exact Nat.div_le_self _ _
  omega
theorem s_two {o : Nat} {x y : Int} (ho : 6 ≤ o ∧ o ≤ 9) (hx : bdv x) (hy : bdv y) (S : jSt) : f_X12_two (o : Int) x y S = some (ar2 o x y, S) := by
  have hx' := hx
  have hy' := hy
  unfold bdv at hx' hy'
  have hm := mulb hx hy
  have hd := tdivb (y := y) hx
  unfold f_X12_two f_X12_two_b65 ar2
  by_cases e6 : o = 6
  · rw [if_pos (by omega), if_pos e6, w64_of (by omega) (by omega), s_clip, fcall_some]
  rw [if_neg (by omega), if_neg e6]
  by_cases e7 : o = 7
  · rw [if_pos (by omega), if_pos e7, w64_of (by omega) (by omega), s_clip, fcall_some]
  rw [if_neg (by omega), if_neg e7]
  by_cases e8 : o = 8
  · rw [if_pos (by omega), if_pos e8, w64_of (by omega) (by omega), s_clip, fcall_some]
  rw [if_neg (by omega), if_neg e8]
  by_cases hy0 : y = 0
  · rw [if_pos hy0, if_pos hy0]
  · rw [if_neg hy0, if_neg hy0, if_neg hy0, ldiv_t ⟨by omega, by omega⟩ ⟨by omega, by omega⟩ ⟨by omega, by omega⟩, s_clip, fcall_some]
theorem s_asked {o : Nat} (x y : Int) (S : jSt) (ho : 10 ≤ o) : f_X12_isAsked (o : Int) x y S = some (if cm2 o x y = true then 1 else 0, S) := by
  unfold f_X12_isAsked f_X12_isAsked_b111 cm2
  (repeat' split) <;> first | rfl | (exfalso; simp only [decide_eq_true_eq] at *; omega)
theorem s_evenBy {x y : Int} (hx : bdv x) (hy : bdv y) (S : jSt) : f_X12_evenBy x y S = some (evn x y, S) := by
  have hx' := hx
  have hy' := hy
  unfold bdv at hx' hy'
  have hd := tdivb (y := y) hx
  have hm := mulb (x := x.tdiv y) (y := y) ⟨hd.1, hd.2⟩ hy
  unfold f_X12_evenBy f_X12_evenBy_b15 evn
  by_cases hy0 : y = 0
  · rw [if_pos hy0, if_pos hy0]
  · rw [if_neg hy0, if_neg hy0, if_neg hy0, ldiv_t ⟨by omega, by omega⟩ ⟨by omega, by omega⟩ ⟨by omega, by omega⟩, w64_of (by omega) (by omega)]
theorem s_joinedR {o : Nat} {b1 b2 : Bool} (S : jSt) : f_X12_joined (o : Int) (if b1 = true then 1 else 0) (if b2 = true then 1 else 0) S = some (if (if o = 21 then (b1 && b2) else (b1 || b2)) = true then 1 else 0, S) := by
  unfold f_X12_joined f_X12_joined_b18 f_X12_joined_b30 f_X12_joined_b35
  by_cases e : o = 21
  · rw [if_pos (by omega), if_pos e]
    cases b1 <;> cases b2 <;> rfl
  · rw [if_neg (by omega), if_neg e]
    cases b1 <;> cases b2 <;> rfl
section RV
variable {m : Nat} {S : jSt} {F : Nat → Nat → Int}
theorem s_worthsOf (R : RI m S F) (W : Wf (F 1)) (z : Int) (hz : bdv z) : f_X12_worthsOf (m : Int) z (rS m S F) = some (wfn (F 1) z, rS m S F) := by
  have hL := W.1.1
  unfold bdv at hz
  unfold f_X12_worthsOf f_X12_worthsOf_b29 f_X12_worthsOf_b30 wfn
  by_cases h : z < 0
  · rw [if_pos h, if_neg (by omega)]
  rw [if_neg h, r_a R, r_al R (by omega) (by omega), show (0 : Int).toNat = 0 from rfl]
  by_cases h2 : F 1 0 ≤ z
  · rw [if_pos h2, if_neg (by omega)]
  · rw [if_neg h2, if_pos (by omega), r_cv R, w32_of (by omega) (by omega), s_get R (by omega) (by omega) (by omega) (by omega), fcall_some, show 11 + 5 * z.toNat + (2 : Int).toNat = 13 + 5 * z.toNat by show 11 + 5 * z.toNat + 2 = _; omega]
theorem wfn_b (W : Wf (F 1)) (z : Int) : bdv (wfn (F 1) z) := by
  unfold wfn bdv
  split
  · rename_i h
    have := W.2.1 z.toNat (by omega)
    unfold WfL at *
    omega
  · omega
end RV
