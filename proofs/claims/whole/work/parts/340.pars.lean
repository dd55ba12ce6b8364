-- THE READING OF LAWS, PURE: numbers and truths by their meaning, and the reference's piles over tokens
abbrev BDen : Type := (Nat → Int) → (Int → Int) → Bool
abbrev SS : Type := List Den × List BDen
abbrev MS : Type := Nat × SS × List Nat × Nat × Bool
def clipv (v : Int) : Int := if 1000000 < v then 1000000 else if v < -1000000 then -1000000 else v
def ar2 (o : Nat) (x y : Int) : Int := if o = 6 then clipv (x + y) else if o = 7 then clipv (x - y) else if o = 8 then clipv (x * y) else if y = 0 then 0 else clipv (x.tdiv y)
def evn (x y : Int) : Int := if y = 0 then 0 else x.tdiv y * y
def cm2 (o : Nat) (x y : Int) : Bool := if o = 10 then decide (x < y) else if o = 11 then decide (x ≤ y) else if o = 12 then decide (y < x) else if o = 13 then decide (y ≤ x) else if o = 14 then decide (x = y) else decide (¬ x = y)
def sx (o : Nat) (v : Int) (s : SS) : Option SS :=
  if o = 0 then some ((fun _ _ => v) :: s.1, s.2)
  else if o = 1 then some ((fun e _ => e v.toNat) :: s.1, s.2)
  else if o = 2 then (match s.1 with | d :: r => some ((fun e w => w (d e w)) :: r, s.2) | _ => none)
  else if o = 3 then (match s.1, s.2 with | d2 :: d1 :: r, b :: t => some ((fun e w => if b e w = true then d1 e w else d2 e w) :: r, t) | _, _ => none)
  else if o = 4 then (match s.1 with | d2 :: d1 :: r => some ((fun e w => evn (d1 e w) (d2 e w)) :: r, s.2) | _ => none)
  else if o = 5 then (match s.1 with | d :: r => some ((fun e w => - d e w) :: r, s.2) | _ => none)
  else if o < 10 then (match s.1 with | d2 :: d1 :: r => some ((fun e w => ar2 o (d1 e w) (d2 e w)) :: r, s.2) | _ => none)
  else if o < 20 then (match s.1 with | d2 :: d1 :: r => some (r, (fun e w => cm2 o (d1 e w) (d2 e w)) :: s.2) | _ => none)
  else if o = 20 then (match s.2 with | b :: t => some (s.1, (fun e w => !b e w) :: t) | _ => none)
  else (match s.2 with | b2 :: b1 :: t => some (s.1, (fun e w => if o = 21 then (b1 e w && b2 e w) else (b1 e w || b2 e w)) :: t) | _ => none)
def rk (o : Nat) : Nat := if 40 ≤ o then 0 else if o = 22 then 1 else if o = 21 then 2 else if o = 20 then 3 else if 10 ≤ o then 4 else if o = 5 ∨ o = 2 ∨ o = 4 then 7 else if 8 ≤ o then 6 else 5
def kdn (o k : Nat) : Option Nat := if rk o = 7 ∨ o = 20 then (if k = 0 then none else some (k - 1)) else some k
def stl (least : Nat) : List Nat → SS → Nat → Option (List Nat × SS × Nat)
  | [], s, k => some ([], s, k)
  | o :: P, s, k => if least ≤ rk o then (match sx o 0 s, kdn o k with | some s', some k' => stl least P s' k' | _, _ => none) else some (o :: P, s, k)
def opn : List Nat → Nat
  | [] => 0
  | o :: P => if 40 ≤ o then o else opn P
def cmpd : List Nat → Bool
  | [] => false
  | o :: P => if 4 < rk o then cmpd P else decide (rk o = 4)
def hd (P : List Nat) : Nat := P.headD 99
def asks (P : List Nat) : Bool := decide (opn P = 42 ∧ (40 ≤ hd P ∨ (1 ≤ rk (hd P) ∧ rk (hd P) ≤ 3)))
def setO (part : Nat) : List Nat → List Nat
  | [] => []
  | o :: P => if 40 ≤ o then part :: P else o :: setO part P
section PM
variable (tk : Nat → Nat) (tv : Nat → Int) (law : Nat)
def endO (j : Nat) (s : SS) (P : List Nat) (k : Nat) : Except (Nat × Nat) MS :=
  match stl 7 P s k with
  | none => .error (8, j)
  | some (P', s', k') => if hd P' = 41 then (if tk j = 19 then .ok (j + 1, s', 4 :: P'.tail, k', false) else .error (1, j)) else .ok (j, s', P', k', true)
def opd (o j : Nat) (s : SS) (P : List Nat) (k : Nat) : Except (Nat × Nat) MS := if k = 8 then .error (3, j) else if 150 ≤ P.length then .error (9, j) else .ok (j + 1, s, o :: P, k + 1, false)
def nmx (k : Nat) : Nat := if k = 9 then 4 else if k = 10 then 5 else if k = 11 then 0 else if k = 12 then 2 else if k = 13 then 3 else if k = 14 then 1 else if k = 15 then 6 else if k = 16 then 7 else 8
def begO (j : Nat) (s : SS) (P : List Nat) (k : Nat) : Except (Nat × Nat) MS :=
  if tk j = 30 then (if 9999 < tv j then .error (2, j) else endO tk (j + 1) ((fun _ _ => tv j) :: s.1, s.2) P k)
  else if 9 ≤ tk j ∧ tk j ≤ 17 then (if 4 < nmx (tk j) ∧ ¬ law = 0 then .error (5, j) else endO tk (j + 1) ((fun e _ => e (nmx (tk j))) :: s.1, s.2) P k)
  else if tk j = 41 then opd 40 j s P k else if tk j = 38 then opd 5 j s P k else if tk j = 26 then opd 41 j s P k else if tk j = 27 then opd 2 j s P k else if tk j = 24 then opd 42 j s P k
  else if tk j = 25 ∧ asks P = true then opd 20 j s P k else .error (1, j)
def btw (t : Nat) (P : List Nat) : Nat := if t = 37 then 6 else if t = 38 then 7 else if t = 39 then 8 else if t = 40 then 9 else if ¬ opn P = 42 then 0 else if ¬ cmpd P = true then (if 31 ≤ t ∧ t ≤ 36 then t - 21 else 0) else if t = 29 then 21 else if t = 28 then 22 else 0
def prt (o t : Nat) (P : List Nat) : Nat := if o = 40 then (if t = 42 then 0 else 99) else if o = 42 then (if t = 21 ∧ cmpd P = true then 43 else 99) else if o = 43 then (if t = 22 then 44 else 99) else if o = 44 then (if t = 23 then 0 else 99) else 99
def clo (j : Nat) (o : Nat) (s : SS) (P : List Nat) (k : Nat) : Except (Nat × Nat) MS :=
  if P = [] ∨ k = 0 then .error (8, j) else if o = 44 then (match sx 3 0 s with | none => .error (8, j) | some s2 => endO tk (j + 1) s2 P.tail (k - 1)) else endO tk (j + 1) s P.tail (k - 1)
def fls (x : Except (Nat × Nat) MS) : Except (Nat × Nat) (Bool × MS) := match x with | .error e => .error e | .ok st => .ok (false, st)
def beh (j : Nat) (s : SS) (P : List Nat) (k : Nat) : Except (Nat × Nat) (Bool × MS) :=
  if ¬ btw (tk j) P = 0 then (match stl (if rk (btw (tk j) P) = 4 then 5 else rk (btw (tk j) P)) P s k with
    | none => .error (8, j)
    | some (P', s', k') => if 150 ≤ P'.length then .error (9, j) else .ok (false, (j + 1, s', btw (tk j) P :: P', k', false)))
  else if prt (opn P) (tk j) P = 99 then (if ¬ opn P = 0 then .error (1, j) else (match stl 1 P s k with | none => .error (8, j) | some (P', s', k') => .ok (true, (j, s', P', k', true))))
  else (match stl 1 P s k with
    | none => .error (8, j)
    | some (P', s', k') => if prt (opn P) (tk j) P = 0 then fls (clo tk j (opn P) s' P' k') else .ok (false, (j + 1, s', setO (prt (opn P) (tk j) P) P', k', false)))
def pst (st : MS) : Except (Nat × Nat) (Bool × MS) := if st.2.2.2.2 = true then beh tk st.1 st.2.1 st.2.2.1 st.2.2.2.1 else fls (begO tk tv law st.1 st.2.1 st.2.2.1 st.2.2.2.1)
def prun : Nat → MS → Option (Except (Nat × Nat) MS)
  | 0, _ => none
  | n + 1, st => match pst tk tv law st with | .error e => some (.error e) | .ok (true, st') => some (.ok st') | .ok (false, st') => prun n st'
def Rn (T : Nat) (st : MS) (r : Except (Nat × Nat) MS) : Prop := prun tk tv law (T + 2 - st.1) st = some r
def EndR (T j : Nat) (s : SS) (P : List Nat) (k : Nat) (r : Except (Nat × Nat) MS) : Prop := match endO tk j s P k with | .error e => r = .error e | .ok st' => Rn tk tv law T st' r
end PM
section PL
variable {tk : Nat → Nat} {tv : Nat → Int} {law : Nat} {T : Nat}
theorem prun_s (n : Nat) : ∀ (st : MS) {r : Except (Nat × Nat) MS}, prun tk tv law n st = some r → prun tk tv law (n + 1) st = some r := by
  induction n with
  | zero => intro st r h; cases h
  | succ n ih =>
    intro st r h
    rw [prun] at h
    rw [prun]
    cases hp : pst tk tv law st with
    | error e => rw [hp] at h; exact h
    | ok q =>
      obtain ⟨b, st'⟩ := q
      rw [hp] at h
      cases b with
      | true => exact h
      | false => exact ih st' h
theorem prun_le {n k : Nat} {st : MS} {r : Except (Nat × Nat) MS} (h : prun tk tv law n st = some r) (hk : n ≤ k) : prun tk tv law k st = some r := by
  induction hk with
  | refl => exact h
  | step _ ih => exact prun_s _ st ih
theorem Rn_go {st st' : MS} {r : Except (Nat × Nat) MS} (hp : pst tk tv law st = .ok (false, st')) (hj : st.1 < st'.1) (hT : st.1 ≤ T) (h : Rn tk tv law T st' r) : Rn tk tv law T st r := by
  unfold Rn at h ⊢
  obtain ⟨n, hn⟩ : ∃ n, T + 2 - st.1 = n + 1 := ⟨T + 1 - st.1, by omega⟩
  rw [hn, prun, hp]
  exact prun_le h (by omega)
theorem Rn_er {st : MS} {e : Nat × Nat} (hp : pst tk tv law st = .error e) (hT : st.1 ≤ T) : Rn tk tv law T st (.error e) := by
  unfold Rn
  obtain ⟨n, hn⟩ : ∃ n, T + 2 - st.1 = n + 1 := ⟨T + 1 - st.1, by omega⟩
  rw [hn, prun, hp]
theorem Rn_ok {st st' : MS} (hp : pst tk tv law st = .ok (true, st')) (hT : st.1 ≤ T) : Rn tk tv law T st (.ok st') := by
  unfold Rn
  obtain ⟨n, hn⟩ : ∃ n, T + 2 - st.1 = n + 1 := ⟨T + 1 - st.1, by omega⟩
  rw [hn, prun, hp]
theorem endO_j {j : Nat} {s : SS} {P : List Nat} {k : Nat} {st : MS} (h : endO tk j s P k = .ok st) : j ≤ st.1 := by
  unfold endO at h
  split at h
  · cases h
  · split at h
    · split at h
      · injection h with h; rw [← h]; exact Nat.le_succ _
      · cases h
    · injection h with h; rw [← h]; exact Nat.le_refl _
/-- a step that ends a ONE goes on with endO -/
theorem Rn_end {st : MS} {j : Nat} {s : SS} {P : List Nat} {k : Nat} {r : Except (Nat × Nat) MS} (hp : pst tk tv law st = fls (endO tk j s P k)) (hj : st.1 < j) (hT : st.1 ≤ T) (h : EndR tk tv law T j s P k r) : Rn tk tv law T st r := by
  unfold EndR at h
  cases he : endO tk j s P k with
  | error e =>
    rw [he] at h hp
    rw [h]
    exact Rn_er hp hT
  | ok st' =>
    rw [he] at h hp
    have := endO_j he
    exact Rn_go hp (by omega) hT h
/-- what stands on top of the pile and is at least so firm is settled -/
def ems : List Nat → SS → Nat → Option (SS × Nat)
  | [], s, k => some (s, k)
  | o :: Q, s, k => match sx o 0 s, kdn o k with | some s', some k' => ems Q s' k' | _, _ => none
theorem stl_app (least : Nat) {P : List Nat} (hP : rk (hd P) < least) : ∀ (Q : List Nat) {s s' : SS} {k k' : Nat}, (∀ o ∈ Q, least ≤ rk o) → ems Q s k = some (s', k') → stl least (Q ++ P) s k = some (P, s', k') := by
  intro Q
  induction Q with
  | nil =>
    intro s s' k k' _ h
    rw [ems] at h
    injection h with h
    injection h with h1 h2
    subst h1; subst h2
    rw [List.nil_append]
    cases P with
    | nil => rw [stl]
    | cons o R => rw [stl, if_neg (by have : rk o < least := hP; omega)]
  | cons o Q ih =>
    intro s s' k k' hQ h
    rw [List.cons_append, stl, if_pos (hQ o List.mem_cons_self)]
    rw [ems] at h
    cases h1 : sx o 0 s with
    | none => rw [h1] at h; cases h
    | some s1 =>
      cases h2 : kdn o k with
      | none => rw [h1, h2] at h; cases h
      | some k1 =>
        rw [h1, h2] at h
        exact ih (fun o ho => hQ o (List.mem_cons_of_mem _ ho)) h
theorem ems_app : ∀ (Q R : List Nat) {s s1 s2 : SS} {k k1 k2 : Nat}, ems Q s k = some (s1, k1) → ems R s1 k1 = some (s2, k2) → ems (Q ++ R) s k = some (s2, k2) := by
  intro Q
  induction Q with
  | nil =>
    intro R s s1 s2 k k1 k2 h h2
    rw [ems] at h
    injection h with h
    injection h with h3 h4
    subst h3; subst h4
    exact h2
  | cons o Q ih =>
    intro R s s1 s2 k k1 k2 h h2
    rw [List.cons_append, ems]
    rw [ems] at h
    cases h1 : sx o 0 s with
    | none => rw [h1] at h; cases h
    | some s3 =>
      cases h4 : kdn o k with
      | none => rw [h1, h4] at h; cases h
      | some k3 =>
        rw [h1, h4] at h
        exact ih R h h2
theorem opn_app : ∀ (Q P : List Nat), (∀ o ∈ Q, 0 < rk o) → opn (Q ++ P) = opn P := by
  intro Q
  induction Q with
  | nil => intro P _; rfl
  | cons o Q ih =>
    intro P h
    have h1 := h o List.mem_cons_self
    rw [List.cons_append, opn, if_neg (fun q => by unfold rk at h1; rw [if_pos q] at h1; omega)]
    exact ih P (fun o ho => h o (List.mem_cons_of_mem _ ho))
theorem cmpd_app : ∀ (Q P : List Nat), (∀ o ∈ Q, 4 < rk o) → cmpd (Q ++ P) = cmpd P := by
  intro Q
  induction Q with
  | nil => intro P _; rfl
  | cons o Q ih =>
    intro P h
    rw [List.cons_append, cmpd, if_pos (h o List.mem_cons_self)]
    exact ih P (fun o ho => h o (List.mem_cons_of_mem _ ho))
end PL
