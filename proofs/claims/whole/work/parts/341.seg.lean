-- the class' codes, by their meaning
def EB (e : Nat → Int) (w : Int → Int) : Prop := (∀ k, -1000000 ≤ e k ∧ e k ≤ 1000000) ∧ ∀ z, -1000000 ≤ w z ∧ w z ≤ 1000000
def Bd (d : Den) : Prop := ∀ e w, EB e w → -1000000 ≤ d e w ∧ d e w ≤ 1000000
def bi (b : BDen) : Den := fun e w => if b e w = true then 1 else 0
def jn1 (k : Int) (w : Int → Int) (a : Int) : Int := if k = 45 then -a else if k = 25 then (if a = 0 then 1 else 0) else w a
def jn2 (k : Int) (a b : Int) : Int := if k = 26 then evn a b else if k = 28 then (if a ≠ 0 ∨ b ≠ 0 then 1 else 0) else if k = 29 then (if a ≠ 0 ∧ b ≠ 0 then 1 else 0) else if 37 ≤ k then ar2 (k - 31).toNat a b else if cm2 (k - 21).toNat a b = true then 1 else 0
def vst (c : Nat → Int) (e : Nat → Int) (w : Int → Int) (p : Nat) (st : List Int) : Option (Nat × List Int) :=
  if c p / 16384 = 22 then some (max p (c p % 16384 - 1).toNat + 1, st)
  else if c p / 16384 = 30 ∨ (9 ≤ c p / 16384 ∧ c p / 16384 ≤ 17) then (if 64 ≤ st.length then none else some (p + 1, (if c p / 16384 = 30 then c p % 16384 else e (nmx (c p / 16384).toNat)) :: st))
  else match st with
    | [] => none
    | a :: r => if c p / 16384 = 21 then some (if a ≠ 0 then p + 1 else max p (c p % 16384 - 1).toNat + 1, r)
      else if c p / 16384 = 45 ∨ c p / 16384 = 25 ∨ c p / 16384 = 27 then some (p + 1, jn1 (c p / 16384) w a :: r)
      else match r with
        | [] => none
        | b :: r' => some (p + 1, jn2 (c p / 16384) b a :: r')
def vex (c : Nat → Int) (e : Nat → Int) (w : Int → Int) (t : Nat) : Nat → Nat → List Int → Option (List Int)
  | 0, _, _ => none
  | n + 1, p, st => if p = t then some st else if t < p then none else match vst c e w p st with | none => none | some (p', st') => vex c e w t n p' st'
theorem vst_f {c : Nat → Int} {e : Nat → Int} {w : Int → Int} {p p' : Nat} {st st' : List Int} (h : vst c e w p st = some (p', st')) : p < p' := by
  unfold vst at h
  split at h
  · injection h with h; injection h with h1 h2; omega
  · split at h
    · split at h
      · cases h
      · injection h with h; injection h with h1 h2; omega
    · split at h
      · cases h
      · split at h
        · injection h with h; injection h with h1 h2; rw [← h1]; split <;> omega
        · split at h
          · injection h with h; injection h with h1 h2; omega
          · split at h
            · cases h
            · injection h with h; injection h with h1 h2; omega
theorem vst_c {c c' : Nat → Int} {e : Nat → Int} {w : Int → Int} {p : Nat} {st : List Int} (h : c' p = c p) : vst c' e w p st = vst c e w p st := by
  unfold vst
  rw [h]
theorem vex_s {c : Nat → Int} {e : Nat → Int} {w : Int → Int} {t : Nat} : ∀ (n p : Nat) (st : List Int) {r : List Int}, vex c e w t n p st = some r → vex c e w t (n + 1) p st = some r := by
  intro n
  induction n with
  | zero => intro p st r h; cases h
  | succ n ih =>
    intro p st r h
    rw [vex] at h ⊢
    by_cases h1 : p = t
    · rw [if_pos h1] at h ⊢; exact h
    · rw [if_neg h1] at h ⊢
      by_cases h2 : t < p
      · rw [if_pos h2] at h; cases h
      · rw [if_neg h2] at h ⊢
        cases hv : vst c e w p st with
        | none => rw [hv] at h; cases h
        | some q => rw [hv] at h; exact ih _ _ h
theorem vex_le {c : Nat → Int} {e : Nat → Int} {w : Int → Int} {t n k p : Nat} {st r : List Int} (h : vex c e w t n p st = some r) (hk : n ≤ k) : vex c e w t k p st = some r := by
  induction hk with
  | refl => exact h
  | step _ ih => exact vex_s _ _ _ ih
theorem vex_cat {c : Nat → Int} {e : Nat → Int} {w : Int → Int} {t1 t2 n2 : Nat} {st1 st2 : List Int} (ht : t1 ≤ t2) (h2 : vex c e w t2 n2 t1 st1 = some st2) : ∀ (n p : Nat) (st : List Int), vex c e w t1 n p st = some st1 → vex c e w t2 (n + n2) p st = some st2 := by
  intro n
  induction n with
  | zero => intro p st h; cases h
  | succ n ih =>
    intro p st h
    rw [vex] at h
    by_cases h1 : p = t1
    · rw [if_pos h1] at h
      injection h with h
      subst h; subst h1
      exact vex_le h2 (by omega)
    · rw [if_neg h1] at h
      by_cases h3 : t1 < p
      · rw [if_pos h3] at h; cases h
      · rw [if_neg h3] at h
        cases hv : vst c e w p st with
        | none => rw [hv] at h; cases h
        | some q =>
          rw [hv] at h
          rw [show n + 1 + n2 = (n + n2) + 1 by omega, vex, if_neg (by omega), if_neg (by omega), hv]
          exact ih _ _ h
theorem vex_c {c c' : Nat → Int} {e : Nat → Int} {w : Int → Int} {t : Nat} : ∀ (n p : Nat) (st : List Int), (∀ i, p ≤ i → i < t → c' i = c i) → vex c' e w t n p st = vex c e w t n p st := by
  intro n
  induction n with
  | zero => intro p st h; rfl
  | succ n ih =>
    intro p st h
    rw [vex, vex]
    by_cases h1 : p = t
    · rw [if_pos h1, if_pos h1]
    · rw [if_neg h1, if_neg h1]
      by_cases h2 : t < p
      · rw [if_pos h2, if_pos h2]
      · rw [if_neg h2, if_neg h2, vst_c (h p (by omega) (by omega))]
        cases hv : vst c e w p st with
        | none => rfl
        | some q =>
          obtain ⟨p', st'⟩ := q
          have := vst_f hv
          exact ih p' st' (fun i h3 h4 => h i (by omega) h4)
/-- each turn goes forward: as many as there are codes are enough -/
theorem vex_b {c : Nat → Int} {e : Nat → Int} {w : Int → Int} {t : Nat} : ∀ (n p : Nat) (st : List Int) {r : List Int}, vex c e w t n p st = some r → vex c e w t (t - p + 1) p st = some r := by
  intro n
  induction n with
  | zero => intro p st r h; cases h
  | succ n ih =>
    intro p st r h
    rw [vex] at h ⊢
    by_cases h1 : p = t
    · rw [if_pos h1] at h ⊢; exact h
    · rw [if_neg h1] at h ⊢
      by_cases h2 : t < p
      · rw [if_pos h2] at h; cases h
      · rw [if_neg h2] at h ⊢
        cases hv : vst c e w p st with
        | none => rw [hv] at h; cases h
        | some q =>
          obtain ⟨p', st'⟩ := q
          rw [hv] at h
          have := vst_f hv
          exact vex_le (ih p' st' h) (by omega)
def okC (z : Int) : Prop := (0 ≤ z ∧ z < 753664) ∧ ((9 ≤ z / 16384 ∧ z / 16384 ≤ 17) ∨ z / 16384 = 21 ∨ z / 16384 = 22 ∨ (25 ≤ z / 16384 ∧ z / 16384 ≤ 40) ∨ z / 16384 = 45)
def Seg (c : Nat → Int) (q q' : Nat) (d : Den) (h : Nat) : Prop := (q ≤ q' ∧ ∀ i, q ≤ i → i < q' → okC (c i)) ∧ ∀ e w, EB e w → ∀ st : List Int, st.length + h ≤ 64 → ∃ n, vex c e w q' n q st = some (d e w :: st)
theorem Seg_c {c c' : Nat → Int} {q q' : Nat} {d : Den} {h : Nat} (s : Seg c q q' d h) (hc : ∀ i, q ≤ i → i < q' → c' i = c i) : Seg c' q q' d h := by
  refine ⟨⟨s.1.1, fun i h1 h2 => by rw [hc i h1 h2]; exact s.1.2 i h1 h2⟩, fun e w he st hst => ?_⟩
  obtain ⟨n, hn⟩ := s.2 e w he st hst
  exact ⟨n, by rw [vex_c n q st hc]; exact hn⟩
theorem Seg_d {c : Nat → Int} {q q' : Nat} {d d' : Den} {h : Nat} (s : Seg c q q' d h) (hd : ∀ e w, EB e w → d' e w = d e w) : Seg c q q' d' h := by
  refine ⟨s.1, fun e w he st hst => ?_⟩
  rw [hd e w he]
  exact s.2 e w he st hst
theorem Seg_h {c : Nat → Int} {q q' : Nat} {d : Den} {h h' : Nat} (s : Seg c q q' d h) (hh : h ≤ h') : Seg c q q' d h' := ⟨s.1, fun e w he st hst => s.2 e w he st (by omega)⟩
theorem kn1 {k n : Int} (h1 : 0 ≤ n) (h2 : n < 16384) : (k * 16384 + n) / 16384 = k ∧ (k * 16384 + n) % 16384 = n := by omega
theorem vex_1 {c : Nat → Int} {e : Nat → Int} {w : Int → Int} {p : Nat} {st st' : List Int} (h : vst c e w p st = some (p + 1, st')) : vex c e w (p + 1) 2 p st = some st' := by
  rw [vex, if_neg (by omega), if_neg (by omega), h]
  show vex c e w (p + 1) 1 (p + 1) st' = _
  rw [vex, if_pos rfl]
theorem Seg_num {c : Nat → Int} {q : Nat} {v : Int} (h0 : 0 ≤ v) (h1 : v < 16384) (hc : c q = 30 * 16384 + v) : Seg c q (q + 1) (fun _ _ => v) 1 := by
  refine ⟨⟨by omega, fun i i1 i2 => by rw [show i = q by omega, hc]; unfold okC; omega⟩, fun e w he st hst => ⟨2, vex_1 ?_⟩⟩
  obtain ⟨k1, k2⟩ := kn1 (k := 30) h0 h1
  unfold vst
  rw [hc, k1, k2, if_neg (by decide), if_pos (Or.inl rfl), if_neg (by omega), if_pos rfl]
theorem Seg_nam {c : Nat → Int} {q k : Nat} (h0 : 9 ≤ k) (h1 : k ≤ 17) (hc : c q = (k : Int) * 16384 + 0) : Seg c q (q + 1) (fun e _ => e (nmx k)) 1 := by
  refine ⟨⟨by omega, fun i i1 i2 => by rw [show i = q by omega, hc]; unfold okC; omega⟩, fun e w he st hst => ⟨2, vex_1 ?_⟩⟩
  obtain ⟨k1, k2⟩ := kn1 (k := k) (n := 0) (by omega) (by omega)
  unfold vst
  rw [hc, k1, if_neg (by omega), if_pos (Or.inr ⟨by omega, by omega⟩), if_neg (by omega), if_neg (by omega), Int.toNat_natCast]
theorem Seg_un {c : Nat → Int} {q q1 : Nat} {d : Den} {h : Nat} {k : Int} (s : Seg c q q1 d h) (hk : k = 45 ∨ k = 25 ∨ k = 27) (hc : c q1 = k * 16384 + 0) : Seg c q (q1 + 1) (fun e w => jn1 k w (d e w)) h := by
  refine ⟨⟨by have := s.1.1; omega, fun i i1 i2 => by
    by_cases e : i = q1
    · rw [e, hc]; unfold okC; omega
    · exact s.1.2 i i1 (by omega)⟩, fun e w he st hst => ?_⟩
  obtain ⟨n, hn⟩ := s.2 e w he st hst
  have l0 := s.1.1
  obtain ⟨k1, k2⟩ := kn1 (k := k) (n := 0) (by omega) (by omega)
  refine ⟨n + 2, vex_cat (by omega) (vex_1 ?_) n q st hn⟩
  unfold vst
  rw [hc, k1, if_neg (by omega), if_neg (by omega)]
  show (if k = 21 then _ else if k = 45 ∨ k = 25 ∨ k = 27 then _ else _) = _
  rw [if_neg (by omega), if_pos hk]
theorem Seg_bin {c : Nat → Int} {q q1 q2 : Nat} {d1 d2 : Den} {h1 h2 : Nat} {k : Int} (s1 : Seg c q q1 d1 h1) (s2 : Seg c q1 q2 d2 h2) (hk : k = 26 ∨ (28 ≤ k ∧ k ≤ 29) ∨ (31 ≤ k ∧ k ≤ 40)) (hc : c q2 = k * 16384 + 0) : Seg c q (q2 + 1) (fun e w => jn2 k (d1 e w) (d2 e w)) (max h1 (h2 + 1)) := by
  have l1 := s1.1.1
  have l2 := s2.1.1
  refine ⟨⟨by omega, fun i i1 i2 => by
    by_cases e : i = q2
    · rw [e, hc]; unfold okC; omega
    · by_cases e2 : i < q1
      · exact s1.1.2 i i1 e2
      · exact s2.1.2 i (by omega) (by omega)⟩, fun e w he st hst => ?_⟩
  obtain ⟨n1, hn1⟩ := s1.2 e w he st (by omega)
  obtain ⟨n2, hn2⟩ := s2.2 e w he (d1 e w :: st) (by rw [List.length_cons]; omega)
  obtain ⟨k1, k2⟩ := kn1 (k := k) (n := 0) (by omega) (by omega)
  have s3 : vst c e w q2 (d2 e w :: d1 e w :: st) = some (q2 + 1, jn2 k (d1 e w) (d2 e w) :: st) := by
    unfold vst
    rw [hc, k1, if_neg (by omega), if_neg (by omega)]
    show (if k = 21 then _ else if k = 45 ∨ k = 25 ∨ k = 27 then _ else _) = _
    rw [if_neg (by omega), if_neg (by omega)]
  exact ⟨_, vex_cat (by omega) (vex_cat (by omega) (vex_1 s3) n2 q1 _ hn2) n1 q st hn1⟩
theorem Seg_if {c : Nat → Int} {q q1 q3 q5 : Nat} {b d1 d2 : Den} {h1 h2 h3 : Nat} (sb : Seg c q q1 b h1) (s1 : Seg c (q1 + 1) q3 d1 h2) (s2 : Seg c (q3 + 1) q5 d2 h3) (hq : q5 < 16384) (hc1 : c q1 = 21 * 16384 + ((q3 + 1 : Nat) : Int)) (hc3 : c q3 = 22 * 16384 + (q5 : Int)) : Seg c q q5 (fun e w => if b e w ≠ 0 then d1 e w else d2 e w) (max h1 (max h2 (max h3 1))) := by
  have l1 := sb.1.1
  have l2 := s1.1.1
  have l3 := s2.1.1
  refine ⟨⟨by omega, fun i i1 i2 => by
    by_cases e : i = q1
    · rw [e, hc1]; unfold okC; omega
    · by_cases e3 : i = q3
      · rw [e3, hc3]; unfold okC; omega
      · by_cases e2 : i < q1
        · exact sb.1.2 i i1 e2
        · by_cases e4 : i < q3
          · exact s1.1.2 i (by omega) e4
          · exact s2.1.2 i (by omega) (by omega)⟩, fun e w he st hst => ?_⟩
  obtain ⟨n1, hn1⟩ := sb.2 e w he st (by omega)
  obtain ⟨k1, k2⟩ := kn1 (k := 21) (n := ((q3 + 1 : Nat) : Int)) (by omega) (by omega)
  obtain ⟨k3, k4⟩ := kn1 (k := 22) (n := (q5 : Int)) (by omega) (by omega)
  have st1 : vst c e w q1 (b e w :: st) = some (if b e w ≠ 0 then q1 + 1 else q3 + 1, st) := by
    unfold vst
    rw [hc1, k1, k2, if_neg (by decide), if_neg (by decide)]
    show (if (21 : Int) = 21 then _ else _) = _
    rw [if_pos rfl, show max q1 ((((q3 + 1 : Nat) : Int) - 1).toNat) + 1 = q3 + 1 by omega]
  have st3 : vst c e w q3 (d1 e w :: st) = some (q5, d1 e w :: st) := by
    unfold vst
    rw [hc3, k3, k4, if_pos rfl, show max q3 (((q5 : Int) - 1).toNat) + 1 = q5 by omega]
  have back : ∀ (n : Nat) (z : List Int), vex c e w q5 n (if b e w ≠ 0 then q1 + 1 else q3 + 1) st = some z → vex c e w q5 (n1 + (n + 1)) q st = some z := fun n z hz => by
    refine vex_cat (by omega) ?_ n1 q st hn1
    rw [vex, if_neg (by omega), if_neg (by omega), st1]
    exact hz
  by_cases hb : b e w ≠ 0
  · obtain ⟨n2, hn2⟩ := s1.2 e w he st (by omega)
    refine ⟨_, back (n2 + 2) _ ?_⟩
    show vex c e w q5 (n2 + 2) _ st = some ((if b e w ≠ 0 then d1 e w else d2 e w) :: st)
    rw [if_pos hb, if_pos hb]
    refine vex_cat (by omega) ?_ n2 _ _ hn2
    rw [vex, if_neg (by omega), if_neg (by omega), st3]
    show vex c e w q5 1 q5 _ = _
    rw [vex, if_pos rfl]
  · obtain ⟨n2, hn2⟩ := s2.2 e w he st (by omega)
    refine ⟨_, back n2 _ ?_⟩
    show vex c e w q5 n2 _ st = some ((if b e w ≠ 0 then d1 e w else d2 e w) :: st)
    rw [if_neg hb, if_neg hb]
    exact hn2
-- bounds
theorem clipv_b (v : Int) : -1000000 ≤ clipv v ∧ clipv v ≤ 1000000 := by
  unfold clipv
  (repeat' split) <;> omega
theorem ar2_b (o : Nat) (x y : Int) : -1000000 ≤ ar2 o x y ∧ ar2 o x y ≤ 1000000 := by
  unfold ar2
  (repeat' split)
  · exact clipv_b _
  · exact clipv_b _
  · exact clipv_b _
  · omega
  · exact clipv_b _
theorem evn_e (x y : Int) : evn x y = if y = 0 then 0 else x - x.tmod y := by
  unfold evn
  split
  · rfl
  · rw [Int.tmod_def, Int.mul_comm]; omega
theorem emod_le_z {x y : Int} (hx : 0 ≤ x) : x % y ≤ x := by
  have key : ∀ z : Int, 0 ≤ z → x % z ≤ x := fun z hz => by
    have h1 := Int.emod_def x z
    have h2 : 0 ≤ z * (x / z) := Int.mul_nonneg hz (Int.ediv_nonneg hx hz)
    omega
  rcases Int.le_total 0 y with h | h
  · exact key y h
  · have := key (-y) (by omega)
    rw [Int.emod_neg] at this
    exact this
theorem evn_b {x y : Int} (h : -1000000 ≤ x ∧ x ≤ 1000000) : -1000000 ≤ evn x y ∧ evn x y ≤ 1000000 := by
  rw [evn_e]
  split
  · omega
  · rename_i hy
    rcases Int.le_total 0 x with hx | hx
    · have h1 := Int.tmod_nonneg y hx
      have h2 : x.tmod y ≤ x := by
        rw [Int.tmod_eq_emod_of_nonneg hx]
        exact emod_le_z hx
      omega
    · have e : x.tmod y = -((-x).tmod y) := by rw [Int.neg_tmod]; omega
      have h1 := Int.tmod_nonneg y (show 0 ≤ -x by omega)
      have h2 : (-x).tmod y ≤ -x := by
        rw [Int.tmod_eq_emod_of_nonneg (by omega)]
        exact emod_le_z (by omega)
      omega
theorem jn2_b {k a b : Int} (h : -1000000 ≤ a ∧ a ≤ 1000000) : -1000000 ≤ jn2 k a b ∧ jn2 k a b ≤ 1000000 := by
  unfold jn2
  (repeat' split)
  · exact evn_b h
  all_goals first | omega | exact ar2_b _ _ _
theorem jn1_b {k a : Int} {w : Int → Int} (h : -1000000 ≤ a ∧ a ≤ 1000000) (hw : ∀ z, -1000000 ≤ w z ∧ w z ≤ 1000000) : -1000000 ≤ jn1 k w a ∧ jn1 k w a ≤ 1000000 := by
  unfold jn1
  (repeat' split)
  · omega
  · omega
  · omega
  · exact hw a
