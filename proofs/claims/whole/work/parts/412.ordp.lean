-- order: selling one after the other, all turns
section OP
variable {V : LwV} {a b : Nat → Int}
theorem env_8 (h : ∀ k, k ≠ 8 → b k = a k) (l : Nat) (c : Int) : envL b l c = envL a l c := by
  have e : (fun l => decide (b (12 + 5 * l) = 3 + c)) = fun l => decide (a (12 + 5 * l) = 3 + c) := funext (fun i => by rw [h (12 + 5 * i) (by omega)])
  funext k
  unfold envL
  rw [e, h 7 (by omega), h (11 + 5 * l) (by omega), h (13 + 5 * l) (by omega), h (14 + 5 * l) (by omega), h (72 + 14 * c.toNat + l) (by omega), h (71 + 14 * c.toNat) (by omega), h 0 (by omega)]
theorem wfn_8 (h : ∀ k, k ≠ 8 → b k = a k) : wfn b = wfn a := by
  funext z
  unfold wfn
  rw [h 0 (by omega), h (13 + 5 * z.toNat) (by omega)]
theorem sayv_8 (h : ∀ k, k ≠ 8 → b k = a k) (t : Int) (s l : Nat) (c d top : Int) : sayv b V t s l c d top = sayv a V t s l c d top := by
  unfold sayv
  rw [env_8 h, wfn_8 h]
theorem bidv_8 (h : ∀ k, k ≠ 8 → b k = a k) (c l : Nat) : bidv b V c l = bidv a V c l := by
  unfold bidv
  rw [sayv_8 h, h 3 (by omega), h (72 + 14 * c + l) (by omega), h (71 + 14 * c) (by omega)]
theorem resv_8 (h : ∀ k, k ≠ 8 → b k = a k) (l : Nat) : resv b V l = resv a V l := by
  unfold resv
  rw [sayv_8 h, h 3 (by omega), h (13 + 5 * l) (by omega)]
theorem win_8 (h : ∀ k, k ≠ 8 → b k = a k) (l : Nat) : winv b V l = winv a V l ∧ pricev b V l = pricev a V l := by
  have e : (fun c => bidv b V c l) = fun c => bidv a V c l := funext (fun c => bidv_8 h c l)
  unfold winv pricev
  rw [e, resv_8 h, h 1 (by omega)]
  exact ⟨rfl, rfl⟩
def oA (V : LwV) (a : Nat → Int) (l : Nat) : Nat → Int := if winv a V l = -1 then a else va_up (va_up a (71 + 14 * (winv a V l).toNat) (a (71 + 14 * (winv a V l).toNat) - pricev a V l)) (12 + 5 * l) (3 + ((winv a V l).toNat : Int))
def oP (V : LwV) (a : Nat → Int) (l : Nat) : Int := if winv a V l = -1 then 0 else pricev a V l
def oT (V : LwV) : (Nat → Int) → List Nat → Int
  | _, [] => 0
  | a, l :: p => oP V a l + oT V (oA V a l) p
theorem sel_8 (h : ∀ k, k ≠ 8 → b k = a k) (l : Nat) : ∀ k, k ≠ 8 → selA false b V l k = oA V a l k := by
  intro k hk
  obtain ⟨e1, e2⟩ := win_8 (V := V) h l
  unfold selA oA soldA
  rw [e1, e2]
  by_cases c : winv a V l = -1
  · rw [if_pos c, if_pos c]
    exact h k hk
  · rw [if_neg c, if_neg c, if_neg (by decide), h (71 + 14 * (winv a V l).toNat) (by omega)]
    by_cases k1 : k = 12 + 5 * l
    · subst k1
      rw [va_up_self, va_up_self]
    · rw [va_up_ne _ _ k1, va_up_ne _ _ k1, va_up_ne _ _ hk]
      by_cases k2 : k = 71 + 14 * (winv a V l).toNat
      · subst k2
        rw [va_up_self, va_up_self]
      · rw [va_up_ne _ _ k2, va_up_ne _ _ k2]
        exact h k hk
theorem oA_W (W : Wf a) {l : Nat} (hl : (l : Int) < a 0) : Wf (oA V a l) ∧ (∀ k, (k < 11 ∨ 141 ≤ k) → oA V a l k = a k) ∧ (∀ i, i < 12 → i ≠ l → oA V a l (12 + 5 * i) = a (12 + 5 * i)) ∧ 0 ≤ oP V a l ∧ oP V a l ≤ 9999 := by
  have w0 := W.1.1
  have w1 := W.1.2.1
  unfold oA oP
  by_cases c : winv a V l = -1
  · rw [if_pos c, if_pos c]
    exact ⟨W, fun _ _ => rfl, fun _ _ _ => rfl, by omega, by omega⟩
  · rw [if_neg c, if_neg c]
    obtain ⟨n1, n2, n3, n4⟩ := (winv_n (V := V) W l).resolve_left c
    have pb := (W.2.2 (winv a V l).toNat (by omega)).1
    refine ⟨Wf_where (Wf_purse W (by omega) (by omega)) ?_ ?_, fun k hk => ?_, fun i hi2 hi => ?_, n3, by omega⟩
    · rw [va_up_ne _ _ (by omega)]; exact hl
    · rw [va_up_ne _ _ (by omega)]; omega
    · rw [va_up_ne _ _ (by omega), va_up_ne _ _ (by omega)]
    · rw [va_up_ne _ _ (by omega), va_up_ne _ _ (by omega)]
theorem oT_b : ∀ (p : List Nat) (a : Nat → Int), Wf a → (∀ l, l ∈ p → (l : Int) < a 0) → 0 ≤ oT V a p ∧ oT V a p ≤ 9999 * (p.length : Int)
  | [], a, _, _ => ⟨Int.le_refl _, by show (0 : Int) ≤ 9999 * (([] : List Nat).length : Int); exact Int.le_refl _⟩
  | l :: p, a, W, h => by
    obtain ⟨h1, h2, _, h4, h5⟩ := oA_W (V := V) W (h l (List.mem_cons_self ..))
    have ih := oT_b p (oA V a l) h1 (fun x hx => by rw [h2 0 (by omega)]; exact h x (List.mem_cons_of_mem _ hx))
    show 0 ≤ oP V a l + oT V (oA V a l) p ∧ oP V a l + oT V (oA V a l) p ≤ 9999 * ((l :: p).length : Int)
    rw [List.length_cons]
    omega
def bts (N s : Nat) : List Nat := (List.range N).filter (fun l => s.testBit l)
theorem bts_s (N s : Nat) : bts (N + 1) s = bts N s ++ (if s.testBit N = true then [N] else []) := by
  unfold bts
  rw [List.range_succ, List.filter_append]
  congr 1
  by_cases h : s.testBit N = true
  · rw [if_pos h, List.filter_cons_of_pos h]
    rfl
  · rw [if_neg h, List.filter_cons_of_neg h]
    rfl
theorem bts_m {N s l : Nat} : l ∈ bts N s ↔ (l < N ∧ s.testBit l = true) := by
  unfold bts
  rw [List.mem_filter, List.mem_range]
theorem bts_f (N s y : Nat) : bts N (s ^^^ (s &&& 2 ^ y)) = (bts N s).filter (fun z => !(z == y)) := by
  unfold bts
  rw [List.filter_filter]
  refine List.filter_congr (fun z _ => ?_)
  rw [anot_t, Nat.testBit_two_pow]
  by_cases e : y = z
  · subst e
    rw [decide_eq_true rfl, beq_self_eq_true, Bool.not_true, Bool.and_false, Bool.false_and]
  · rw [decide_eq_false e, beq_false_of_ne (fun q => e q.symm), Bool.not_false, Bool.and_true, Bool.true_and]
def cnd (V : LwV) (N : Nat) : Nat → (Nat → Int) → Nat → List (Int × List Nat)
  | 0, _, _ => [(0, [])]
  | n + 1, a, s => (bts N s).flatMap (fun y => (cnd V N n (oA V a y) (s ^^^ (s &&& 2 ^ y))).map (fun c => (oP V a y + c.1, y :: c.2)))
def pms : Nat → List Nat → List (List Nat)
  | 0, _ => [[]]
  | n + 1, l => l.flatMap (fun y => (pms n (l.filter (fun z => !(z == y)))).map (fun p => y :: p))
theorem fm_congr {β : Type} {f g : Nat → List β} : ∀ l : List Nat, (∀ y, y ∈ l → f y = g y) → l.flatMap f = l.flatMap g
  | [], _ => rfl
  | y :: l, h => by
    rw [List.flatMap_cons, List.flatMap_cons, h y (List.mem_cons_self ..), fm_congr l (fun z hz => h z (List.mem_cons_of_mem _ hz))]
theorem cnd_pms (N : Nat) : ∀ (n : Nat) (a : Nat → Int) (s : Nat), cnd V N n a s = (pms n (bts N s)).map (fun p => (oT V a p, p))
  | 0, _, _ => rfl
  | n + 1, a, s => by
    unfold cnd pms
    rw [List.map_flatMap]
    refine fm_congr _ (fun y _ => ?_)
    rw [cnd_pms N n, bts_f, List.map_map, List.map_map]
    rfl
theorem pms_map (L : Nat → Nat) : ∀ (n : Nat) (l : List Nat), (∀ y, y ∈ l → ∀ z, z ∈ l → L y = L z → y = z) → pms n (l.map L) = (pms n l).map (fun p => p.map L)
  | 0, _, _ => rfl
  | n + 1, l, h => by
    unfold pms
    rw [List.map_flatMap, List.flatMap_map]
    refine fm_congr _ (fun y hy => ?_)
    have e : (l.map L).filter (fun z => !(z == L y)) = (l.filter (fun z => !(z == y))).map L := by
      rw [List.filter_map]
      congr 1
      refine List.filter_congr (fun z hz => ?_)
      show (!(L z == L y)) = !(z == y)
      by_cases q : z = y
      · subst q
        rw [beq_self_eq_true, beq_self_eq_true]
      · rw [beq_false_of_ne q, beq_false_of_ne (fun w => q (h z hz y hy w))]
    rw [e, pms_map L n _ (fun u hu v hv => h u ((List.mem_filter.mp hu).1) v ((List.mem_filter.mp hv).1)), List.map_map, List.map_map]
    rfl
theorem pms_m : ∀ (n : Nat) (l p : List Nat), p ∈ pms n l → p.length = n ∧ ∀ y, y ∈ p → y ∈ l
  | 0, l, p, h => by
    have : p = [] := by
      unfold pms at h
      exact List.mem_singleton.mp h
    subst this
    exact ⟨rfl, fun y hy => by cases hy⟩
  | n + 1, l, p, h => by
    unfold pms at h
    obtain ⟨y, hy, h2⟩ := List.mem_flatMap.mp h
    obtain ⟨q, hq, rfl⟩ := List.mem_map.mp h2
    obtain ⟨h3, h4⟩ := pms_m n _ q hq
    refine ⟨by rw [List.length_cons, h3], fun z hz => ?_⟩
    rcases List.mem_cons.mp hz with e | e
    · rw [e]; exact hy
    · exact (List.mem_filter.mp (h4 z e)).1
def bup (b c : Int × List Nat) : Int × List Nat := if b.1 < c.1 then c else b
theorem bup_len {n : Nat} : ∀ (l : List (Int × List Nat)) (b : Int × List Nat), (∀ c, c ∈ l → -1 < c.1 ∧ c.2.length = n) → (b.2.length = n ∨ (b.1 = -1 ∧ l ≠ [])) → (l.foldl bup b).2.length = n
  | [], b, _, h => by
    rcases h with h | h
    · exact h
    · exact absurd rfl h.2
  | c :: l, b, hc, h => by
    obtain ⟨c1, c2⟩ := hc c (List.mem_cons_self ..)
    rw [List.foldl_cons]
    refine bup_len l _ (fun z hz => hc z (List.mem_cons_of_mem _ hz)) (Or.inl ?_)
    unfold bup
    by_cases q : b.1 < c.1
    · rw [if_pos q]; exact c2
    · rw [if_neg q]
      rcases h with h | h
      · exact h
      · exact absurd (show b.1 < c.1 by rw [h.1]; exact c1) q
end OP
