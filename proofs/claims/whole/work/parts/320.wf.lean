section WF
variable {a : Nat → Int}
theorem Wf_steps (W : Wf a) {z : Int} (hz : 0 ≤ z ∧ z ≤ 30) : Wf (va_up a (4) z) := by
  obtain ⟨⟨w0, w1, w2, w3, w4, w7, w8, w9, w10⟩, WL, WB⟩ := W
  refine ⟨⟨?_, ?_, ?_, ?_, ?_, ?_, ?_, ?_, ?_⟩, ?_, ?_⟩
  · simp (disch := omega) only [va_up_ne]; exact w0
  · simp (disch := omega) only [va_up_ne]; exact w1
  · simp (disch := omega) only [va_up_ne]; exact w2
  · simp (disch := omega) only [va_up_ne]; exact w3
  · simp (disch := omega) only [va_up_ne, va_up_self]; omega
  · simp (disch := omega) only [va_up_ne, va_up_self]; omega
  · simp (disch := omega) only [va_up_ne, va_up_self]; omega
  · simp (disch := omega) only [va_up_ne, va_up_self]; omega
  · simp (disch := omega) only [va_up_ne, va_up_self]; omega
  · intro q hq
    simp (disch := omega) only [va_up_ne] at hq
    have hq2 := WL q hq
    simp (disch := omega) only [va_up_ne]; exact hq2
  · intro q hq
    simp (disch := omega) only [va_up_ne] at hq
    have hq2 := WB q hq
    refine ⟨?_, fun q2 hh => ?_⟩
    · simp (disch := omega) only [va_up_ne]; exact hq2.1
    · simp (disch := omega) only [va_up_ne]; exact hq2.2 q2 hh
theorem Wf_week (W : Wf a) {z : Int} (hz : 0 ≤ z ∧ z ≤ 9999) : Wf (va_up a (7) z) := by
  obtain ⟨⟨w0, w1, w2, w3, w4, w7, w8, w9, w10⟩, WL, WB⟩ := W
  refine ⟨⟨?_, ?_, ?_, ?_, ?_, ?_, ?_, ?_, ?_⟩, ?_, ?_⟩
  · simp (disch := omega) only [va_up_ne]; exact w0
  · simp (disch := omega) only [va_up_ne]; exact w1
  · simp (disch := omega) only [va_up_ne]; exact w2
  · simp (disch := omega) only [va_up_ne]; exact w3
  · simp (disch := omega) only [va_up_ne, va_up_self]; omega
  · simp (disch := omega) only [va_up_ne, va_up_self]; omega
  · simp (disch := omega) only [va_up_ne, va_up_self]; omega
  · simp (disch := omega) only [va_up_ne, va_up_self]; omega
  · simp (disch := omega) only [va_up_ne, va_up_self]; omega
  · intro q hq
    simp (disch := omega) only [va_up_ne] at hq
    have hq2 := WL q hq
    simp (disch := omega) only [va_up_ne]; exact hq2
  · intro q hq
    simp (disch := omega) only [va_up_ne] at hq
    have hq2 := WB q hq
    refine ⟨?_, fun q2 hh => ?_⟩
    · simp (disch := omega) only [va_up_ne]; exact hq2.1
    · simp (disch := omega) only [va_up_ne]; exact hq2.2 q2 hh
theorem Wf_takings (W : Wf a) {z : Int} (hz : 0 ≤ z ∧ z ≤ 99999) : Wf (va_up a (8) z) := by
  obtain ⟨⟨w0, w1, w2, w3, w4, w7, w8, w9, w10⟩, WL, WB⟩ := W
  refine ⟨⟨?_, ?_, ?_, ?_, ?_, ?_, ?_, ?_, ?_⟩, ?_, ?_⟩
  · simp (disch := omega) only [va_up_ne]; exact w0
  · simp (disch := omega) only [va_up_ne]; exact w1
  · simp (disch := omega) only [va_up_ne]; exact w2
  · simp (disch := omega) only [va_up_ne]; exact w3
  · simp (disch := omega) only [va_up_ne, va_up_self]; omega
  · simp (disch := omega) only [va_up_ne, va_up_self]; omega
  · simp (disch := omega) only [va_up_ne, va_up_self]; omega
  · simp (disch := omega) only [va_up_ne, va_up_self]; omega
  · simp (disch := omega) only [va_up_ne, va_up_self]; omega
  · intro q hq
    simp (disch := omega) only [va_up_ne] at hq
    have hq2 := WL q hq
    simp (disch := omega) only [va_up_ne]; exact hq2
  · intro q hq
    simp (disch := omega) only [va_up_ne] at hq
    have hq2 := WB q hq
    refine ⟨?_, fun q2 hh => ?_⟩
    · simp (disch := omega) only [va_up_ne]; exact hq2.1
    · simp (disch := omega) only [va_up_ne]; exact hq2.2 q2 hh
theorem Wf_x (W : Wf a) {z : Int} (hz : 0 ≤ z ∧ z ≤ 30592) : Wf (va_up a (9) z) := by
  obtain ⟨⟨w0, w1, w2, w3, w4, w7, w8, w9, w10⟩, WL, WB⟩ := W
  refine ⟨⟨?_, ?_, ?_, ?_, ?_, ?_, ?_, ?_, ?_⟩, ?_, ?_⟩
  · simp (disch := omega) only [va_up_ne]; exact w0
  · simp (disch := omega) only [va_up_ne]; exact w1
  · simp (disch := omega) only [va_up_ne]; exact w2
  · simp (disch := omega) only [va_up_ne]; exact w3
  · simp (disch := omega) only [va_up_ne, va_up_self]; omega
  · simp (disch := omega) only [va_up_ne, va_up_self]; omega
  · simp (disch := omega) only [va_up_ne, va_up_self]; omega
  · simp (disch := omega) only [va_up_ne, va_up_self]; omega
  · simp (disch := omega) only [va_up_ne, va_up_self]; omega
  · intro q hq
    simp (disch := omega) only [va_up_ne] at hq
    have hq2 := WL q hq
    simp (disch := omega) only [va_up_ne]; exact hq2
  · intro q hq
    simp (disch := omega) only [va_up_ne] at hq
    have hq2 := WB q hq
    refine ⟨?_, fun q2 hh => ?_⟩
    · simp (disch := omega) only [va_up_ne]; exact hq2.1
    · simp (disch := omega) only [va_up_ne]; exact hq2.2 q2 hh
theorem Wf_sales (W : Wf a) {z : Int} (hz : 0 ≤ z ∧ z ≤ 30) : Wf (va_up a (10) z) := by
  obtain ⟨⟨w0, w1, w2, w3, w4, w7, w8, w9, w10⟩, WL, WB⟩ := W
  refine ⟨⟨?_, ?_, ?_, ?_, ?_, ?_, ?_, ?_, ?_⟩, ?_, ?_⟩
  · simp (disch := omega) only [va_up_ne]; exact w0
  · simp (disch := omega) only [va_up_ne]; exact w1
  · simp (disch := omega) only [va_up_ne]; exact w2
  · simp (disch := omega) only [va_up_ne]; exact w3
  · simp (disch := omega) only [va_up_ne, va_up_self]; omega
  · simp (disch := omega) only [va_up_ne, va_up_self]; omega
  · simp (disch := omega) only [va_up_ne, va_up_self]; omega
  · simp (disch := omega) only [va_up_ne, va_up_self]; omega
  · simp (disch := omega) only [va_up_ne, va_up_self]; omega
  · intro q hq
    simp (disch := omega) only [va_up_ne] at hq
    have hq2 := WL q hq
    simp (disch := omega) only [va_up_ne]; exact hq2
  · intro q hq
    simp (disch := omega) only [va_up_ne] at hq
    have hq2 := WB q hq
    refine ⟨?_, fun q2 hh => ?_⟩
    · simp (disch := omega) only [va_up_ne]; exact hq2.1
    · simp (disch := omega) only [va_up_ne]; exact hq2.2 q2 hh
theorem Wf_hi (W : Wf a) {k : Nat} (hk : 141 ≤ k) {z : Int} : Wf (va_up a (k) z) := by
  obtain ⟨⟨w0, w1, w2, w3, w4, w7, w8, w9, w10⟩, WL, WB⟩ := W
  refine ⟨⟨?_, ?_, ?_, ?_, ?_, ?_, ?_, ?_, ?_⟩, ?_, ?_⟩
  · simp (disch := omega) only [va_up_ne]; exact w0
  · simp (disch := omega) only [va_up_ne]; exact w1
  · simp (disch := omega) only [va_up_ne]; exact w2
  · simp (disch := omega) only [va_up_ne]; exact w3
  · simp (disch := omega) only [va_up_ne, va_up_self]; omega
  · simp (disch := omega) only [va_up_ne, va_up_self]; omega
  · simp (disch := omega) only [va_up_ne, va_up_self]; omega
  · simp (disch := omega) only [va_up_ne, va_up_self]; omega
  · simp (disch := omega) only [va_up_ne, va_up_self]; omega
  · intro q hq
    simp (disch := omega) only [va_up_ne] at hq
    have hq2 := WL q hq
    simp (disch := omega) only [va_up_ne]; exact hq2
  · intro q hq
    simp (disch := omega) only [va_up_ne] at hq
    have hq2 := WB q hq
    refine ⟨?_, fun q2 hh => ?_⟩
    · simp (disch := omega) only [va_up_ne]; exact hq2.1
    · simp (disch := omega) only [va_up_ne]; exact hq2.2 q2 hh
theorem Wf_floor (W : Wf a) {l : Nat} (hl : (l : Int) < a 0) {z : Int} (hz : 0 ≤ z ∧ z ≤ 5) : Wf (va_up a (11 + 5 * l) z) := by
  obtain ⟨⟨w0, w1, w2, w3, w4, w7, w8, w9, w10⟩, WL, WB⟩ := W
  refine ⟨⟨?_, ?_, ?_, ?_, ?_, ?_, ?_, ?_, ?_⟩, ?_, ?_⟩
  · simp (disch := omega) only [va_up_ne]; exact w0
  · simp (disch := omega) only [va_up_ne]; exact w1
  · simp (disch := omega) only [va_up_ne]; exact w2
  · simp (disch := omega) only [va_up_ne]; exact w3
  · simp (disch := omega) only [va_up_ne, va_up_self]; omega
  · simp (disch := omega) only [va_up_ne, va_up_self]; omega
  · simp (disch := omega) only [va_up_ne, va_up_self]; omega
  · simp (disch := omega) only [va_up_ne, va_up_self]; omega
  · simp (disch := omega) only [va_up_ne, va_up_self]; omega
  · intro q hq
    simp (disch := omega) only [va_up_ne] at hq
    have hq2 := WL q hq
    by_cases hql : q = l
    · subst hql
      simp (disch := omega) only [va_up_ne, va_up_self]; exact ⟨hz, hq2.2⟩
    · simp (disch := omega) only [va_up_ne]; exact hq2
  · intro q hq
    simp (disch := omega) only [va_up_ne] at hq
    have hq2 := WB q hq
    refine ⟨?_, fun q2 hh => ?_⟩
    · simp (disch := omega) only [va_up_ne]; exact hq2.1
    · simp (disch := omega) only [va_up_ne]; exact hq2.2 q2 hh
theorem Wf_where (W : Wf a) {l : Nat} (hl : (l : Int) < a 0) {z : Int} (hz : 0 ≤ z ∧ z < 3 + a 1) : Wf (va_up a (12 + 5 * l) z) := by
  obtain ⟨⟨w0, w1, w2, w3, w4, w7, w8, w9, w10⟩, WL, WB⟩ := W
  refine ⟨⟨?_, ?_, ?_, ?_, ?_, ?_, ?_, ?_, ?_⟩, ?_, ?_⟩
  · simp (disch := omega) only [va_up_ne]; exact w0
  · simp (disch := omega) only [va_up_ne]; exact w1
  · simp (disch := omega) only [va_up_ne]; exact w2
  · simp (disch := omega) only [va_up_ne]; exact w3
  · simp (disch := omega) only [va_up_ne, va_up_self]; omega
  · simp (disch := omega) only [va_up_ne, va_up_self]; omega
  · simp (disch := omega) only [va_up_ne, va_up_self]; omega
  · simp (disch := omega) only [va_up_ne, va_up_self]; omega
  · simp (disch := omega) only [va_up_ne, va_up_self]; omega
  · intro q hq
    simp (disch := omega) only [va_up_ne] at hq
    have hq2 := WL q hq
    by_cases hql : q = l
    · subst hql
      simp (disch := omega) only [va_up_ne, va_up_self]; exact ⟨hq2.1, hz, hq2.2.2⟩
    · simp (disch := omega) only [va_up_ne]; exact hq2
  · intro q hq
    simp (disch := omega) only [va_up_ne] at hq
    have hq2 := WB q hq
    refine ⟨?_, fun q2 hh => ?_⟩
    · simp (disch := omega) only [va_up_ne]; exact hq2.1
    · simp (disch := omega) only [va_up_ne]; exact hq2.2 q2 hh
theorem Wf_purse (W : Wf a) {b : Nat} (hb : (b : Int) < a 1) {z : Int} (hz : 0 ≤ z ∧ z ≤ 9999) : Wf (va_up a (71 + 14 * b) z) := by
  obtain ⟨⟨w0, w1, w2, w3, w4, w7, w8, w9, w10⟩, WL, WB⟩ := W
  refine ⟨⟨?_, ?_, ?_, ?_, ?_, ?_, ?_, ?_, ?_⟩, ?_, ?_⟩
  · simp (disch := omega) only [va_up_ne]; exact w0
  · simp (disch := omega) only [va_up_ne]; exact w1
  · simp (disch := omega) only [va_up_ne]; exact w2
  · simp (disch := omega) only [va_up_ne]; exact w3
  · simp (disch := omega) only [va_up_ne, va_up_self]; omega
  · simp (disch := omega) only [va_up_ne, va_up_self]; omega
  · simp (disch := omega) only [va_up_ne, va_up_self]; omega
  · simp (disch := omega) only [va_up_ne, va_up_self]; omega
  · simp (disch := omega) only [va_up_ne, va_up_self]; omega
  · intro q hq
    simp (disch := omega) only [va_up_ne] at hq
    have hq2 := WL q hq
    simp (disch := omega) only [va_up_ne]; exact hq2
  · intro q hq
    simp (disch := omega) only [va_up_ne] at hq
    have hq2 := WB q hq
    by_cases hql : q = b
    · subst hql
      refine ⟨by simp (disch := omega) only [va_up_ne, va_up_self]; exact hz, fun q2 hh => ?_⟩
      simp (disch := omega) only [va_up_ne]; exact hq2.2 q2 hh
    · refine ⟨?_, fun q2 hh => ?_⟩
      · simp (disch := omega) only [va_up_ne]; exact hq2.1
      · simp (disch := omega) only [va_up_ne]; exact hq2.2 q2 hh
theorem Wf_want (W : Wf a) {b l : Nat} (hb : (b : Int) < a 1) (hl : l < 12) {z : Int} (hz : 0 ≤ z ∧ z ≤ 99) : Wf (va_up a (72 + 14 * b + l) z) := by
  obtain ⟨⟨w0, w1, w2, w3, w4, w7, w8, w9, w10⟩, WL, WB⟩ := W
  refine ⟨⟨?_, ?_, ?_, ?_, ?_, ?_, ?_, ?_, ?_⟩, ?_, ?_⟩
  · simp (disch := omega) only [va_up_ne]; exact w0
  · simp (disch := omega) only [va_up_ne]; exact w1
  · simp (disch := omega) only [va_up_ne]; exact w2
  · simp (disch := omega) only [va_up_ne]; exact w3
  · simp (disch := omega) only [va_up_ne, va_up_self]; omega
  · simp (disch := omega) only [va_up_ne, va_up_self]; omega
  · simp (disch := omega) only [va_up_ne, va_up_self]; omega
  · simp (disch := omega) only [va_up_ne, va_up_self]; omega
  · simp (disch := omega) only [va_up_ne, va_up_self]; omega
  · intro q hq
    simp (disch := omega) only [va_up_ne] at hq
    have hq2 := WL q hq
    simp (disch := omega) only [va_up_ne]; exact hq2
  · intro q hq
    simp (disch := omega) only [va_up_ne] at hq
    have hq2 := WB q hq
    refine ⟨?_, fun q2 hh => ?_⟩
    · simp (disch := omega) only [va_up_ne]; exact hq2.1
    · by_cases hql : q = b ∧ q2 = l
      · obtain ⟨rfl, rfl⟩ := hql
        simp (disch := omega) only [va_up_self]; exact hz
      · simp (disch := omega) only [va_up_ne]; exact hq2.2 q2 hh
theorem Wf_ext {a' : Nat → Int} (W : Wf a) (h : ∀ k, k < 141 → k ≠ 10 → a' k = a k) (h10 : 0 ≤ a' 10 ∧ a' 10 ≤ 30) : Wf a' := by
  obtain ⟨⟨w0, w1, w2, w3, w4, w7, w8, w9, w10⟩, WL, WB⟩ := W
  refine ⟨⟨?_, ?_, ?_, ?_, ?_, ?_, ?_, ?_, h10⟩, ?_, ?_⟩
  · rw [h _ (by omega) (by omega)]; exact w0
  · rw [h _ (by omega) (by omega)]; exact w1
  · rw [h _ (by omega) (by omega)]; exact w2
  · rw [h 3 (by omega) (by omega), h 2 (by omega) (by omega)]; exact w3
  · rw [h _ (by omega) (by omega)]; exact w4
  · rw [h _ (by omega) (by omega)]; exact w7
  · rw [h _ (by omega) (by omega)]; exact w8
  · rw [h _ (by omega) (by omega)]; exact w9
  · intro q hq
    rw [h _ (by omega) (by omega)] at hq
    rw [h _ (by omega) (by omega), h _ (by omega) (by omega), h 1 (by omega) (by omega), h _ (by omega) (by omega), h _ (by omega) (by omega)]
    exact WL q hq
  · intro q hq
    rw [h _ (by omega) (by omega)] at hq
    rw [h _ (by omega) (by omega)]
    refine ⟨(WB q hq).1, fun q2 h2 => ?_⟩
    rw [h _ (by omega) (by omega)]
    exact (WB q hq).2 q2 h2
theorem Wf_book (W : Wf a) (l b p : Int) : Wf (bookA a l b p) := by
  have w10 := W.1.2.2.2.2.2.2.2.2
  refine Wf_ext W (fun k h1 h2 => bookA_lo a l b p (by omega) h2) ?_
  unfold bookA
  rw [va_up_self]
  unfold shB
  split
  · rw [va_up_self]; omega
  · omega
theorem Wf_sold (wr : Bool) (W : Wf a) {l w : Nat} (hl : (l : Int) < a 0) (hw : (w : Int) < a 1) {p : Int} (hp : 0 ≤ p ∧ p ≤ a (71 + 14 * w)) : Wf (soldA wr a l w p) := by
  have wb := W.2.2 w hw
  obtain ⟨w0, w1, _⟩ := W.1
  have k1 := Wf_purse W hw (z := a (71 + 14 * w) - p) (by omega)
  have k2 := Wf_takings k1 (z := clp 99999 (a 8 + p)) (clp_n _ _ (by omega))
  have k3 := Wf_where k2 (l := l) (by simp (disch := omega) only [va_up_ne]; exact hl) (z := 3 + (w : Int)) (by simp (disch := omega) only [va_up_ne]; omega)
  unfold soldA
  split
  · exact Wf_book k3 _ _ _
  · exact k3
theorem Wf_sel (wr : Bool) (V : LwV) (W : Wf a) {l : Nat} (hl : (l : Int) < a 0) : Wf (selA wr a V l) := by
  unfold selA
  split
  · exact W
  · rename_i h
    obtain ⟨n1, n2, n3, n4⟩ := (winv_n (V := V) W l).resolve_left h
    exact Wf_sold wr W hl (by omega) ⟨n3, n4⟩
theorem Wf_anew (W : Wf a) : Wf (anewA a) := Wf_x W (by have := W.1.2.2.2.2.2.2.2.1; omega)
theorem Wf_warm (V : LwV) (W : Wf a) {l : Nat} (hl : (l : Int) < a 0) (hb : 0 < a 1) : Wf (warmA a V l) := by
  have k := Wf_anew W
  obtain ⟨w0, w1, _⟩ := W.1
  unfold warmA
  split
  · have hm : 0 ≤ a 9 % 10 % a 1 ∧ a 9 % 10 % a 1 < a 1 := ⟨Int.emod_nonneg _ (by omega), Int.emod_lt_of_pos _ hb⟩
    exact Wf_want k (by show _ < a 1; omega) (by omega) (clp_n _ _ (by omega))
  · exact k
theorem Wf_pasS (wr : Bool) (V : LwV) (f : Int) (W : Wf a) : ∀ n : Nat, (n : Int) ≤ a 0 → Wf (pasS wr V f a n).1
  | 0, _ => W
  | n + 1, h => by
    have ih := Wf_pasS wr V f W n (by omega)
    have p0 : (pasS wr V f a n).1 0 = a 0 := pasS_lo wr V f a (by omega) n
    have p1 : (pasS wr V f a n).1 1 = a 1 := pasS_lo wr V f a (by omega) n
    have w1 := W.1.2.1
    unfold pasS
    split
    · rename_i q
      have k := Wf_warm V ih (l := n) (by rw [p0]; omega) (by rw [p1]; omega)
      exact Wf_sel wr V k (by rw [warmA_lo _ _ _ (by omega) (by omega), p0]; omega)
    · exact ih
theorem Wf_pas (wr : Bool) (V : LwV) (W : Wf a) (h : a 7 < 9999) : Wf (pasA wr V a) := by
  have w0 := W.1.1
  have w7 := W.1.2.2.2.2.2.1
  exact Wf_week (Wf_pasS wr V (sfl a) W (a 0).toNat (by omega)) (by omega)
theorem Wf_buy (W : Wf a) {l : Nat} {p : Int} (hc : canBuyP a l p) : Wf (buyA a l p) := by
  obtain ⟨c1, c2, c3, c4, c5⟩ := hc
  rw [toNat_z] at c2 c5
  obtain ⟨w0, w1, w2, w3, w4, w7, w8, w9, w10⟩ := W.1
  have wl := W.2.1 l c1.2
  have k1 := Wf_takings W (z := a 8 - p) (by omega)
  have k2 := Wf_purse k1 (b := (a (12 + 5 * l) - 3).toNat) (by simp (disch := omega) only [va_up_ne]; omega) (z := clp 9999 (a (71 + 14 * (a (12 + 5 * l) - 3).toNat) + p)) (clp_n _ _ (by omega))
  exact Wf_where k2 (l := l) (by simp (disch := omega) only [va_up_ne]; omega) (z := 1) (by simp (disch := omega) only [va_up_ne]; omega)
theorem Wf_year (wr : Bool) (V : LwV) (W : Wf a) : Wf (yearA wr V a) := by
  have k := Wf_anew W
  obtain ⟨w0, w1, w2, w3, w4, w7, w8, w9, w10⟩ := W.1
  unfold yearA
  split
  · split
    · rename_i h; exact Wf_pas wr V k h
    · exact k
  · split
    · exact k
    · rename_i h0
      have hm : 0 ≤ a 9 % a 0 ∧ a 9 % a 0 < a 0 := ⟨Int.emod_nonneg _ h0, Int.emod_lt_of_pos _ (by omega)⟩
      have hl : (((a 9 % a 0).toNat : Nat) : Int) < anewA a 0 := by show _ < a 0; omega
      split
      · split
        · exact Wf_sel wr V k hl
        · exact k
      · split
        · split
          · exact k
          · rename_i h1
            obtain ⟨c1, c2, c3, c4⟩ : canCarryP (anewA a) (a 9 % a 0) := Classical.byContradiction (fun z => h1 (bb_0.mpr z))
            have e3 : anewA a (11 + 5 * (a 9 % a 0).toNat) = a (11 + 5 * (a 9 % a 0).toNat) := by unfold anewA; rw [va_up_ne _ _ (by omega)]
            rw [e3] at c4
            have wl := W.2.1 (a 9 % a 0).toNat hl
            exact Wf_floor k hl (by omega)
        · split
          · split
            · exact Wf_where k hl (by show (0 : Int) ≤ 2 ∧ 2 < 3 + a 1; omega)
            · exact k
          · split
            · exact k
            · rename_i h1
              have hq : canBuyP (anewA a) (a 9 % a 0) (20 + a 9 % 30) := Classical.byContradiction (fun z => h1 (bb_0.mpr z))
              have hq2 : canBuyP (anewA a) (((a 9 % a 0).toNat : Nat) : Int) (20 + a 9 % 30) := by rw [show (((a 9 % a 0).toNat : Nat) : Int) = a 9 % a 0 by omega]; exact hq
              exact Wf_buy k hq2
end WF
