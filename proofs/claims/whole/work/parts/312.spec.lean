/-- a loop that counts up to N, with a state -/
theorem lpe {β σ : Type} {z : β} {s : β → β} (E : β → Nat → σ → Option (Int × jSt)) (Inv : Nat → σ → Prop) (Post : Option (Int × jSt) → Prop) {N : Nat} (hs : ∀ r i c, i < N → Inv i c → (∀ c', Inv (i + 1) c' → Post (E r (i + 1) c')) → Post (E (s r) i c)) (he : ∀ r c, Inv N c → Post (E (s r) N c)) : ∀ n i c, i ≤ N → N - i < n → Inv i c → Post (E (jrep z s n) i c) := by
  intro n
  induction n with
  | zero => intro i c _ h; omega
  | succ n ih =>
    intro i c hi hn hc
    rw [jrep_s]
    by_cases h : i = N
    · subst h; exact he _ c hc
    · exact hs _ i c (by omega) hc (fun c' hc' => ih (i + 1) c' (by omega) (by omega) hc')
-- laws by their meaning
abbrev Den : Type := (Nat → Int) → (Int → Int) → Int
abbrev LwV : Type := Nat → Nat → Option Den
def cnt (p : Nat → Bool) : Nat → Nat
  | 0 => 0
  | n + 1 => cnt p n + (if p n then 1 else 0)
def wfn (a : Nat → Int) (z : Int) : Int := if 0 ≤ z ∧ z < a 0 then a (13 + 5 * z.toNat) else 0
def envL (a : Nat → Int) (l : Nat) (b : Int) : Nat → Int := fun k => if k = 0 then a 7 else if k = 1 then a (11 + 5 * l) else if k = 2 then a (13 + 5 * l) else if k = 3 then a (14 + 5 * l) else if k = 4 then (l : Int) else if b < 0 then 0 else if k = 5 then a (72 + 14 * b.toNat + l) else if k = 6 then a (71 + 14 * b.toNat) else if k = 7 then b else ((cnt (fun l => decide (a (12 + 5 * l) = 3 + b)) (a 0).toNat : Nat) : Int)
def clp (top v : Int) : Int := if v < 0 then 0 else if top < v then top else v
def sayv (a : Nat → Int) (V : LwV) (t : Int) (s : Nat) (l : Nat) (b dflt top : Int) : Int := clp top (if t < 0 then dflt else (V t.toNat s).elim dflt (fun d => d (envL a l b) (wfn a)))
def bidv (a : Nat → Int) (V : LwV) (b l : Nat) : Int := if sayv a V (a 3) 0 l b (a (72 + 14 * b + l)) 1000000 < a (71 + 14 * b) then sayv a V (a 3) 0 l b (a (72 + 14 * b + l)) 1000000 else a (71 + 14 * b)
def resv (a : Nat → Int) (V : LwV) (l : Nat) : Int := sayv a V (a 3) 1 l (-1) (a (13 + 5 * l) / 2) 999
def wrmv (a : Nat → Int) (V : LwV) (t : Int) (l : Nat) : Int := sayv a V t 2 l (-1) 3 10
-- the first that bids most, what it bids, what is most among the others
def bst3 (f : Nat → Int) : Nat → Int × Int × Int
  | 0 => (-1, -1, -1)
  | n + 1 => if (bst3 f n).2.1 < f n then ((n : Int), f n, (bst3 f n).2.1) else ((bst3 f n).1, (bst3 f n).2.1, if (bst3 f n).2.2 < f n then f n else (bst3 f n).2.2)
def winv (a : Nat → Int) (V : LwV) (l : Nat) : Int := if 0 < a 1 ∧ resv a V l ≤ (bst3 (fun b => bidv a V b l) (a 1).toNat).2.1 then (bst3 (fun b => bidv a V b l) (a 1).toNat).1 else -1
def pricev (a : Nat → Int) (V : LwV) (l : Nat) : Int := imax (bst3 (fun b => bidv a V b l) (a 1).toNat).2.2 (resv a V l)
theorem clp_n (top v : Int) (h : 0 ≤ top) : 0 ≤ clp top v ∧ clp top v ≤ top := by
  unfold clp
  (repeat' split) <;> omega
theorem clp_m (top v : Int) (h : 0 ≤ top) : imax 0 (imin top v) = clp top v := by
  unfold clp imax imin
  (repeat' split) <;> omega
theorem sayv_n (a : Nat → Int) (V : LwV) (t : Int) (s l : Nat) (b dflt : Int) {top : Int} (h : 0 ≤ top) : 0 ≤ sayv a V t s l b dflt top ∧ sayv a V t s l b dflt top ≤ top := clp_n _ _ h
theorem bidv_n {a : Nat → Int} (V : LwV) (b l : Nat) (h : 0 ≤ a (71 + 14 * b)) : 0 ≤ bidv a V b l ∧ bidv a V b l ≤ a (71 + 14 * b) := by
  unfold bidv
  have h1 := sayv_n a V (a 3) 0 l b (a (72 + 14 * b + l)) (top := 1000000) (by omega)
  split <;> omega
theorem resv_n (a : Nat → Int) (V : LwV) (l : Nat) : 0 ≤ resv a V l ∧ resv a V l ≤ 999 := clp_n _ _ (by omega)
theorem wrmv_n (a : Nat → Int) (V : LwV) (t : Int) (l : Nat) : 0 ≤ wrmv a V t l ∧ wrmv a V t l ≤ 10 := clp_n _ _ (by omega)
theorem bst3_n (f : Nat → Int) {T : Int} (hT : -1 ≤ T) : ∀ n : Nat, (∀ b, b < n → 0 ≤ f b ∧ f b ≤ T) → (-1 ≤ (bst3 f n).1 ∧ (bst3 f n).1 < n) ∧ (-1 ≤ (bst3 f n).2.1 ∧ (bst3 f n).2.1 ≤ T) ∧ (-1 ≤ (bst3 f n).2.2 ∧ (bst3 f n).2.2 ≤ T) ∧ (0 < n → 0 ≤ (bst3 f n).1 ∧ (bst3 f n).2.1 = f (bst3 f n).1.toNat) ∧ (bst3 f n).2.2 ≤ (bst3 f n).2.1
  | 0, _ => by unfold bst3; simp; omega
  | n + 1, h => by
    have ih := bst3_n f hT n (fun b hb => h b (by omega))
    have h1 := h n (by omega)
    unfold bst3
    by_cases c : (bst3 f n).2.1 < f n
    · rw [if_pos c]
      simp only [Int.toNat_natCast]
      refine ⟨⟨by omega, by omega⟩, ⟨by omega, by omega⟩, ⟨by omega, by omega⟩, fun _ => ⟨by omega, trivial⟩, by omega⟩
    · rw [if_neg c]
      have hn : 0 < n := by
        by_cases hn : n = 0
        · subst hn
          exact absurd (show (bst3 f 0).2.1 < f 0 by show (-1 : Int) < f 0; omega) c
        · omega
      obtain ⟨i1, i2, i3, i4, i5⟩ := ih
      have i4' := i4 hn
      refine ⟨⟨by omega, by show (bst3 f n).1 < _; omega⟩, i2, ?_, fun _ => i4', ?_⟩
      · show -1 ≤ (if (bst3 f n).2.2 < f n then f n else (bst3 f n).2.2) ∧ (if (bst3 f n).2.2 < f n then f n else (bst3 f n).2.2) ≤ T
        split <;> omega
      · show (if (bst3 f n).2.2 < f n then f n else (bst3 f n).2.2) ≤ (bst3 f n).2.1
        split <;> omega
