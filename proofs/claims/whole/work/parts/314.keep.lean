section CR3
variable {wr : Bool} {x : Nat} {S : jSt} {V : LwV} {C : Nat → Nat → Int} {a : Nat → Int} {o : Nat}
theorem HR_week (ho : isH o) (h : HR wr x S V a C o) {z : Int} (hz : 0 ≤ z ∧ z ≤ 9999) : HR wr x S V (va_up a (7) z) (va_up C (o) (va_up (C (o)) (7) z)) o := by
  obtain ⟨I, T, ⟨⟨h7, h8, h9, h5, h5'⟩, HL, HB, HZ1, HZ2, HZ3⟩, ⟨⟨w0, w1, w2, w3, w4, w7, w8, w9, w10⟩, WL, WB⟩, L, B⟩ := h
  have o14 : 14 ≤ o := by unfold isH at ho; omega
  refine ⟨CI_hs I ho (by omega), ⟨?_, ?_, ?_, ?_, ?_⟩, ⟨⟨?_, ?_, ?_, ?_, ?_⟩, ?_, ?_, ?_, ?_, ?_⟩, ⟨⟨?_, ?_, ?_, ?_, ?_, ?_, ?_, ?_, ?_⟩, ?_, ?_⟩, ?_, ?_⟩
  · simp (disch := omega) only [va_up_ne]; exact T.1
  · simp (disch := omega) only [va_up_ne]; exact T.2.1
  · simp (disch := omega) only [va_up_ne]; exact T.2.2.1
  · simp (disch := omega) only [va_up_ne]; exact T.2.2.2.1
  · intro l hl
    simp (disch := omega) only [va_up_ne] at hl
    simp (disch := omega) only [va_up_ne]; exact T.2.2.2.2 l hl
  · simp (disch := omega) only [va_up_ne, va_up_self]
  · simp (disch := omega) only [va_up_ne, va_up_self]; exact h8
  · simp (disch := omega) only [va_up_ne, va_up_self]; exact h9
  · simp (disch := omega) only [va_up_ne, va_up_self]; exact h5
  · simp (disch := omega) only [va_up_ne, va_up_self]; exact h5'
  · intro q hq
    simp (disch := omega) only [va_up_ne] at hq
    have hq2 := HL q hq
    simp (disch := omega) only [va_up_ne]; exact hq2
  · intro q hq
    simp (disch := omega) only [va_up_ne] at hq
    have hq2 := HB q hq
    refine ⟨?_, fun q2 hh => ?_⟩
    · simp (disch := omega) only [va_up_ne]; exact hq2.1
    · simp (disch := omega) only [va_up_ne]; exact hq2.2 q2 hh
  · intro q hq hq1
    simp (disch := omega) only [va_up_ne] at hq1
    simp (disch := omega) only [va_up_ne]; exact HZ1 q hq hq1
  · intro q q2 hq hq2 hq1
    simp (disch := omega) only [va_up_ne] at hq1
    simp (disch := omega) only [va_up_ne]; exact HZ2 q q2 hq hq2 hq1
  · intro q q2 hq hq2 hq1
    simp (disch := omega) only [va_up_ne] at hq hq1
    simp (disch := omega) only [va_up_ne]; exact HZ3 q q2 hq hq2 hq1
  · simp (disch := omega) only [va_up_ne]; exact w0
  · simp (disch := omega) only [va_up_ne]; exact w1
  · simp (disch := omega) only [va_up_ne]; exact w2
  · simp (disch := omega) only [va_up_ne]; exact w3
  · simp (disch := omega) only [va_up_ne]; exact w4
  · simp (disch := omega) only [va_up_ne, va_up_self]; omega
  · simp (disch := omega) only [va_up_ne, va_up_self]; omega
  · simp (disch := omega) only [va_up_ne, va_up_self]; omega
  · simp (disch := omega) only [va_up_ne]; exact w10
  · intro q hq
    simp (disch := omega) only [va_up_ne] at hq
    have hq2 := WL q hq
    simp (disch := omega) only [va_up_ne]; exact hq2
  · intro q hq
    simp (disch := omega) only [va_up_ne] at hq
    have hq2 := WB q hq
    refine ⟨?_, fun q2 hh => ?_⟩
    · simp (disch := omega) only [va_up_ne]; exact hq2.1
    · simp (disch := omega) only [va_up_ne]; exact hq2.2 q2 hh
  · simp (disch := omega) only [va_up_ne]; exact L
  · intro w
    obtain ⟨b1, b2⟩ := B w
    refine ⟨?_, fun i hi => ?_⟩
    · simp (disch := omega) only [va_up_ne, va_up_self]; exact b1
    · simp (disch := omega) only [va_up_ne] at hi
      simp (disch := omega) only [va_up_ne]; exact b2 i hi
theorem HR_takings (ho : isH o) (h : HR wr x S V a C o) {z : Int} (hz : 0 ≤ z ∧ z ≤ 99999) : HR wr x S V (va_up a (8) z) (va_up C (o) (va_up (C (o)) (6) z)) o := by
  obtain ⟨I, T, ⟨⟨h7, h8, h9, h5, h5'⟩, HL, HB, HZ1, HZ2, HZ3⟩, ⟨⟨w0, w1, w2, w3, w4, w7, w8, w9, w10⟩, WL, WB⟩, L, B⟩ := h
  have o14 : 14 ≤ o := by unfold isH at ho; omega
  refine ⟨CI_hs I ho (by omega), ⟨?_, ?_, ?_, ?_, ?_⟩, ⟨⟨?_, ?_, ?_, ?_, ?_⟩, ?_, ?_, ?_, ?_, ?_⟩, ⟨⟨?_, ?_, ?_, ?_, ?_, ?_, ?_, ?_, ?_⟩, ?_, ?_⟩, ?_, ?_⟩
  · simp (disch := omega) only [va_up_ne]; exact T.1
  · simp (disch := omega) only [va_up_ne]; exact T.2.1
  · simp (disch := omega) only [va_up_ne]; exact T.2.2.1
  · simp (disch := omega) only [va_up_ne]; exact T.2.2.2.1
  · intro l hl
    simp (disch := omega) only [va_up_ne] at hl
    simp (disch := omega) only [va_up_ne]; exact T.2.2.2.2 l hl
  · simp (disch := omega) only [va_up_ne, va_up_self]; exact h7
  · simp (disch := omega) only [va_up_ne, va_up_self]
  · simp (disch := omega) only [va_up_ne, va_up_self]; exact h9
  · simp (disch := omega) only [va_up_ne, va_up_self]; exact h5
  · simp (disch := omega) only [va_up_ne, va_up_self]; exact h5'
  · intro q hq
    simp (disch := omega) only [va_up_ne] at hq
    have hq2 := HL q hq
    simp (disch := omega) only [va_up_ne]; exact hq2
  · intro q hq
    simp (disch := omega) only [va_up_ne] at hq
    have hq2 := HB q hq
    refine ⟨?_, fun q2 hh => ?_⟩
    · simp (disch := omega) only [va_up_ne]; exact hq2.1
    · simp (disch := omega) only [va_up_ne]; exact hq2.2 q2 hh
  · intro q hq hq1
    simp (disch := omega) only [va_up_ne] at hq1
    simp (disch := omega) only [va_up_ne]; exact HZ1 q hq hq1
  · intro q q2 hq hq2 hq1
    simp (disch := omega) only [va_up_ne] at hq1
    simp (disch := omega) only [va_up_ne]; exact HZ2 q q2 hq hq2 hq1
  · intro q q2 hq hq2 hq1
    simp (disch := omega) only [va_up_ne] at hq hq1
    simp (disch := omega) only [va_up_ne]; exact HZ3 q q2 hq hq2 hq1
  · simp (disch := omega) only [va_up_ne]; exact w0
  · simp (disch := omega) only [va_up_ne]; exact w1
  · simp (disch := omega) only [va_up_ne]; exact w2
  · simp (disch := omega) only [va_up_ne]; exact w3
  · simp (disch := omega) only [va_up_ne]; exact w4
  · simp (disch := omega) only [va_up_ne, va_up_self]; omega
  · simp (disch := omega) only [va_up_ne, va_up_self]; omega
  · simp (disch := omega) only [va_up_ne, va_up_self]; omega
  · simp (disch := omega) only [va_up_ne]; exact w10
  · intro q hq
    simp (disch := omega) only [va_up_ne] at hq
    have hq2 := WL q hq
    simp (disch := omega) only [va_up_ne]; exact hq2
  · intro q hq
    simp (disch := omega) only [va_up_ne] at hq
    have hq2 := WB q hq
    refine ⟨?_, fun q2 hh => ?_⟩
    · simp (disch := omega) only [va_up_ne]; exact hq2.1
    · simp (disch := omega) only [va_up_ne]; exact hq2.2 q2 hh
  · simp (disch := omega) only [va_up_ne]; exact L
  · intro w
    obtain ⟨b1, b2⟩ := B w
    refine ⟨?_, fun i hi => ?_⟩
    · simp (disch := omega) only [va_up_ne, va_up_self]; exact b1
    · simp (disch := omega) only [va_up_ne] at hi
      simp (disch := omega) only [va_up_ne]; exact b2 i hi
theorem HR_x (ho : isH o) (h : HR wr x S V a C o) {z : Int} (hz : 0 ≤ z ∧ z ≤ 30592) : HR wr x S V (va_up a (9) z) (va_up C (o) (va_up (C (o)) (8) z)) o := by
  obtain ⟨I, T, ⟨⟨h7, h8, h9, h5, h5'⟩, HL, HB, HZ1, HZ2, HZ3⟩, ⟨⟨w0, w1, w2, w3, w4, w7, w8, w9, w10⟩, WL, WB⟩, L, B⟩ := h
  have o14 : 14 ≤ o := by unfold isH at ho; omega
  refine ⟨CI_hs I ho (by omega), ⟨?_, ?_, ?_, ?_, ?_⟩, ⟨⟨?_, ?_, ?_, ?_, ?_⟩, ?_, ?_, ?_, ?_, ?_⟩, ⟨⟨?_, ?_, ?_, ?_, ?_, ?_, ?_, ?_, ?_⟩, ?_, ?_⟩, ?_, ?_⟩
  · simp (disch := omega) only [va_up_ne]; exact T.1
  · simp (disch := omega) only [va_up_ne]; exact T.2.1
  · simp (disch := omega) only [va_up_ne]; exact T.2.2.1
  · simp (disch := omega) only [va_up_ne]; exact T.2.2.2.1
  · intro l hl
    simp (disch := omega) only [va_up_ne] at hl
    simp (disch := omega) only [va_up_ne]; exact T.2.2.2.2 l hl
  · simp (disch := omega) only [va_up_ne, va_up_self]; exact h7
  · simp (disch := omega) only [va_up_ne, va_up_self]; exact h8
  · simp (disch := omega) only [va_up_ne, va_up_self]
  · simp (disch := omega) only [va_up_ne, va_up_self]; exact h5
  · simp (disch := omega) only [va_up_ne, va_up_self]; exact h5'
  · intro q hq
    simp (disch := omega) only [va_up_ne] at hq
    have hq2 := HL q hq
    simp (disch := omega) only [va_up_ne]; exact hq2
  · intro q hq
    simp (disch := omega) only [va_up_ne] at hq
    have hq2 := HB q hq
    refine ⟨?_, fun q2 hh => ?_⟩
    · simp (disch := omega) only [va_up_ne]; exact hq2.1
    · simp (disch := omega) only [va_up_ne]; exact hq2.2 q2 hh
  · intro q hq hq1
    simp (disch := omega) only [va_up_ne] at hq1
    simp (disch := omega) only [va_up_ne]; exact HZ1 q hq hq1
  · intro q q2 hq hq2 hq1
    simp (disch := omega) only [va_up_ne] at hq1
    simp (disch := omega) only [va_up_ne]; exact HZ2 q q2 hq hq2 hq1
  · intro q q2 hq hq2 hq1
    simp (disch := omega) only [va_up_ne] at hq hq1
    simp (disch := omega) only [va_up_ne]; exact HZ3 q q2 hq hq2 hq1
  · simp (disch := omega) only [va_up_ne]; exact w0
  · simp (disch := omega) only [va_up_ne]; exact w1
  · simp (disch := omega) only [va_up_ne]; exact w2
  · simp (disch := omega) only [va_up_ne]; exact w3
  · simp (disch := omega) only [va_up_ne]; exact w4
  · simp (disch := omega) only [va_up_ne, va_up_self]; omega
  · simp (disch := omega) only [va_up_ne, va_up_self]; omega
  · simp (disch := omega) only [va_up_ne, va_up_self]; omega
  · simp (disch := omega) only [va_up_ne]; exact w10
  · intro q hq
    simp (disch := omega) only [va_up_ne] at hq
    have hq2 := WL q hq
    simp (disch := omega) only [va_up_ne]; exact hq2
  · intro q hq
    simp (disch := omega) only [va_up_ne] at hq
    have hq2 := WB q hq
    refine ⟨?_, fun q2 hh => ?_⟩
    · simp (disch := omega) only [va_up_ne]; exact hq2.1
    · simp (disch := omega) only [va_up_ne]; exact hq2.2 q2 hh
  · simp (disch := omega) only [va_up_ne]; exact L
  · intro w
    obtain ⟨b1, b2⟩ := B w
    refine ⟨?_, fun i hi => ?_⟩
    · simp (disch := omega) only [va_up_ne, va_up_self]; exact b1
    · simp (disch := omega) only [va_up_ne] at hi
      simp (disch := omega) only [va_up_ne]; exact b2 i hi
theorem HR_floor (ho : isH o) (h : HR wr x S V a C o) {l : Nat} (hl : (l : Int) < a 0) {z : Int} (hz : 0 ≤ z ∧ z ≤ 5) : HR wr x S V (va_up a (11 + 5 * l) z) (va_up C (o + 2) (va_up (C (o + 2)) (l) z)) o := by
  obtain ⟨I, T, ⟨⟨h7, h8, h9, h5, h5'⟩, HL, HB, HZ1, HZ2, HZ3⟩, ⟨⟨w0, w1, w2, w3, w4, w7, w8, w9, w10⟩, WL, WB⟩, L, B⟩ := h
  have o14 : 14 ≤ o := by unfold isH at ho; omega
  refine ⟨CI_ha I ho (by omega) (by omega), ⟨?_, ?_, ?_, ?_, ?_⟩, ⟨⟨?_, ?_, ?_, ?_, ?_⟩, ?_, ?_, ?_, ?_, ?_⟩, ⟨⟨?_, ?_, ?_, ?_, ?_, ?_, ?_, ?_, ?_⟩, ?_, ?_⟩, ?_, ?_⟩
  · simp (disch := omega) only [va_up_ne]; exact T.1
  · simp (disch := omega) only [va_up_ne]; exact T.2.1
  · simp (disch := omega) only [va_up_ne]; exact T.2.2.1
  · simp (disch := omega) only [va_up_ne]; exact T.2.2.2.1
  · intro l hl
    simp (disch := omega) only [va_up_ne] at hl
    simp (disch := omega) only [va_up_ne]; exact T.2.2.2.2 l hl
  · simp (disch := omega) only [va_up_ne, va_up_self]; exact h7
  · simp (disch := omega) only [va_up_ne, va_up_self]; exact h8
  · simp (disch := omega) only [va_up_ne, va_up_self]; exact h9
  · simp (disch := omega) only [va_up_ne, va_up_self]; exact h5
  · simp (disch := omega) only [va_up_ne, va_up_self]; exact h5'
  · intro q hq
    simp (disch := omega) only [va_up_ne] at hq
    have hq2 := HL q hq
    by_cases hql : q = l
    · subst hql
      simp (disch := omega) only [va_up_ne, va_up_self]; exact ⟨hq2.1, trivial⟩
    · simp (disch := omega) only [va_up_ne, va_up_self]; exact hq2
  · intro q hq
    simp (disch := omega) only [va_up_ne] at hq
    have hq2 := HB q hq
    refine ⟨?_, fun q2 hh => ?_⟩
    · simp (disch := omega) only [va_up_ne]; exact hq2.1
    · simp (disch := omega) only [va_up_ne]; exact hq2.2 q2 hh
  · intro q hq hq1
    simp (disch := omega) only [va_up_ne] at hq1
    simp (disch := omega) only [va_up_ne]; exact HZ1 q hq hq1
  · intro q q2 hq hq2 hq1
    simp (disch := omega) only [va_up_ne] at hq1
    simp (disch := omega) only [va_up_ne]; exact HZ2 q q2 hq hq2 hq1
  · intro q q2 hq hq2 hq1
    simp (disch := omega) only [va_up_ne] at hq hq1
    simp (disch := omega) only [va_up_ne]; exact HZ3 q q2 hq hq2 hq1
  · simp (disch := omega) only [va_up_ne]; exact w0
  · simp (disch := omega) only [va_up_ne]; exact w1
  · simp (disch := omega) only [va_up_ne]; exact w2
  · simp (disch := omega) only [va_up_ne]; exact w3
  · simp (disch := omega) only [va_up_ne]; exact w4
  · simp (disch := omega) only [va_up_ne, va_up_self]; omega
  · simp (disch := omega) only [va_up_ne, va_up_self]; omega
  · simp (disch := omega) only [va_up_ne, va_up_self]; omega
  · simp (disch := omega) only [va_up_ne]; exact w10
  · intro q hq
    simp (disch := omega) only [va_up_ne] at hq
    have hq2 := WL q hq
    by_cases hql : q = l
    · subst hql
      simp (disch := omega) only [va_up_ne, va_up_self]; exact ⟨hz, hq2.2⟩
    · simp (disch := omega) only [va_up_ne]; exact hq2
  · intro q hq
    simp (disch := omega) only [va_up_ne] at hq
    have hq2 := WB q hq
    refine ⟨?_, fun q2 hh => ?_⟩
    · simp (disch := omega) only [va_up_ne]; exact hq2.1
    · simp (disch := omega) only [va_up_ne]; exact hq2.2 q2 hh
  · simp (disch := omega) only [va_up_ne]; exact L
  · intro w
    obtain ⟨b1, b2⟩ := B w
    refine ⟨?_, fun i hi => ?_⟩
    · simp (disch := omega) only [va_up_ne, va_up_self]; exact b1
    · simp (disch := omega) only [va_up_ne] at hi
      simp (disch := omega) only [va_up_ne]; exact b2 i hi
theorem HR_where (ho : isH o) (h : HR wr x S V a C o) {l : Nat} (hl : (l : Int) < a 0) {z : Int} (hz : 0 ≤ z ∧ z < 3 + a 1) : HR wr x S V (va_up a (12 + 5 * l) z) (va_up C (o + 1) (va_up (C (o + 1)) (l) z)) o := by
  obtain ⟨I, T, ⟨⟨h7, h8, h9, h5, h5'⟩, HL, HB, HZ1, HZ2, HZ3⟩, ⟨⟨w0, w1, w2, w3, w4, w7, w8, w9, w10⟩, WL, WB⟩, L, B⟩ := h
  have o14 : 14 ≤ o := by unfold isH at ho; omega
  refine ⟨CI_ha I ho (by omega) (by omega), ⟨?_, ?_, ?_, ?_, ?_⟩, ⟨⟨?_, ?_, ?_, ?_, ?_⟩, ?_, ?_, ?_, ?_, ?_⟩, ⟨⟨?_, ?_, ?_, ?_, ?_, ?_, ?_, ?_, ?_⟩, ?_, ?_⟩, ?_, ?_⟩
  · simp (disch := omega) only [va_up_ne]; exact T.1
  · simp (disch := omega) only [va_up_ne]; exact T.2.1
  · simp (disch := omega) only [va_up_ne]; exact T.2.2.1
  · simp (disch := omega) only [va_up_ne]; exact T.2.2.2.1
  · intro l hl
    simp (disch := omega) only [va_up_ne] at hl
    simp (disch := omega) only [va_up_ne]; exact T.2.2.2.2 l hl
  · simp (disch := omega) only [va_up_ne, va_up_self]; exact h7
  · simp (disch := omega) only [va_up_ne, va_up_self]; exact h8
  · simp (disch := omega) only [va_up_ne, va_up_self]; exact h9
  · simp (disch := omega) only [va_up_ne, va_up_self]; exact h5
  · simp (disch := omega) only [va_up_ne, va_up_self]; exact h5'
  · intro q hq
    simp (disch := omega) only [va_up_ne] at hq
    have hq2 := HL q hq
    by_cases hql : q = l
    · subst hql
      simp (disch := omega) only [va_up_ne, va_up_self]; exact ⟨trivial, hq2.2⟩
    · simp (disch := omega) only [va_up_ne, va_up_self]; exact hq2
  · intro q hq
    simp (disch := omega) only [va_up_ne] at hq
    have hq2 := HB q hq
    refine ⟨?_, fun q2 hh => ?_⟩
    · simp (disch := omega) only [va_up_ne]; exact hq2.1
    · simp (disch := omega) only [va_up_ne]; exact hq2.2 q2 hh
  · intro q hq hq1
    simp (disch := omega) only [va_up_ne] at hq1
    simp (disch := omega) only [va_up_ne, va_up_self]; exact HZ1 q hq hq1
  · intro q q2 hq hq2 hq1
    simp (disch := omega) only [va_up_ne] at hq1
    simp (disch := omega) only [va_up_ne]; exact HZ2 q q2 hq hq2 hq1
  · intro q q2 hq hq2 hq1
    simp (disch := omega) only [va_up_ne] at hq hq1
    simp (disch := omega) only [va_up_ne]; exact HZ3 q q2 hq hq2 hq1
  · simp (disch := omega) only [va_up_ne]; exact w0
  · simp (disch := omega) only [va_up_ne]; exact w1
  · simp (disch := omega) only [va_up_ne]; exact w2
  · simp (disch := omega) only [va_up_ne]; exact w3
  · simp (disch := omega) only [va_up_ne]; exact w4
  · simp (disch := omega) only [va_up_ne, va_up_self]; omega
  · simp (disch := omega) only [va_up_ne, va_up_self]; omega
  · simp (disch := omega) only [va_up_ne, va_up_self]; omega
  · simp (disch := omega) only [va_up_ne]; exact w10
  · intro q hq
    simp (disch := omega) only [va_up_ne] at hq
    have hq2 := WL q hq
    by_cases hql : q = l
    · subst hql
      simp (disch := omega) only [va_up_ne, va_up_self]; exact ⟨hq2.1, hz, hq2.2.2⟩
    · simp (disch := omega) only [va_up_ne]; exact hq2
  · intro q hq
    simp (disch := omega) only [va_up_ne] at hq
    have hq2 := WB q hq
    refine ⟨?_, fun q2 hh => ?_⟩
    · simp (disch := omega) only [va_up_ne]; exact hq2.1
    · simp (disch := omega) only [va_up_ne]; exact hq2.2 q2 hh
  · simp (disch := omega) only [va_up_ne]; exact L
  · intro w
    obtain ⟨b1, b2⟩ := B w
    refine ⟨?_, fun i hi => ?_⟩
    · simp (disch := omega) only [va_up_ne, va_up_self]; exact b1
    · simp (disch := omega) only [va_up_ne] at hi
      simp (disch := omega) only [va_up_ne]; exact b2 i hi
theorem HR_purse (ho : isH o) (h : HR wr x S V a C o) {b : Nat} (hb : (b : Int) < a 1) {z : Int} (hz : 0 ≤ z ∧ z ≤ 9999) : HR wr x S V (va_up a (71 + 14 * b) z) (va_up C (o + 3) (va_up (C (o + 3)) (b) z)) o := by
  obtain ⟨I, T, ⟨⟨h7, h8, h9, h5, h5'⟩, HL, HB, HZ1, HZ2, HZ3⟩, ⟨⟨w0, w1, w2, w3, w4, w7, w8, w9, w10⟩, WL, WB⟩, L, B⟩ := h
  have o14 : 14 ≤ o := by unfold isH at ho; omega
  refine ⟨CI_ha I ho (by omega) (by omega), ⟨?_, ?_, ?_, ?_, ?_⟩, ⟨⟨?_, ?_, ?_, ?_, ?_⟩, ?_, ?_, ?_, ?_, ?_⟩, ⟨⟨?_, ?_, ?_, ?_, ?_, ?_, ?_, ?_, ?_⟩, ?_, ?_⟩, ?_, ?_⟩
  · simp (disch := omega) only [va_up_ne]; exact T.1
  · simp (disch := omega) only [va_up_ne]; exact T.2.1
  · simp (disch := omega) only [va_up_ne]; exact T.2.2.1
  · simp (disch := omega) only [va_up_ne]; exact T.2.2.2.1
  · intro l hl
    simp (disch := omega) only [va_up_ne] at hl
    simp (disch := omega) only [va_up_ne]; exact T.2.2.2.2 l hl
  · simp (disch := omega) only [va_up_ne, va_up_self]; exact h7
  · simp (disch := omega) only [va_up_ne, va_up_self]; exact h8
  · simp (disch := omega) only [va_up_ne, va_up_self]; exact h9
  · simp (disch := omega) only [va_up_ne, va_up_self]; exact h5
  · simp (disch := omega) only [va_up_ne, va_up_self]; exact h5'
  · intro q hq
    simp (disch := omega) only [va_up_ne] at hq
    have hq2 := HL q hq
    simp (disch := omega) only [va_up_ne]; exact hq2
  · intro q hq
    simp (disch := omega) only [va_up_ne] at hq
    have hq2 := HB q hq
    by_cases hql : q = b
    · subst hql
      refine ⟨by simp (disch := omega) only [va_up_ne, va_up_self], fun q2 hh => ?_⟩
      simp (disch := omega) only [va_up_ne]; exact hq2.2 q2 hh
    · refine ⟨?_, fun q2 hh => ?_⟩
      · simp (disch := omega) only [va_up_ne, va_up_self]; exact hq2.1
      · simp (disch := omega) only [va_up_ne]; exact hq2.2 q2 hh
  · intro q hq hq1
    simp (disch := omega) only [va_up_ne] at hq1
    simp (disch := omega) only [va_up_ne]; exact HZ1 q hq hq1
  · intro q q2 hq hq2 hq1
    simp (disch := omega) only [va_up_ne] at hq1
    simp (disch := omega) only [va_up_ne]; exact HZ2 q q2 hq hq2 hq1
  · intro q q2 hq hq2 hq1
    simp (disch := omega) only [va_up_ne] at hq hq1
    simp (disch := omega) only [va_up_ne]; exact HZ3 q q2 hq hq2 hq1
  · simp (disch := omega) only [va_up_ne]; exact w0
  · simp (disch := omega) only [va_up_ne]; exact w1
  · simp (disch := omega) only [va_up_ne]; exact w2
  · simp (disch := omega) only [va_up_ne]; exact w3
  · simp (disch := omega) only [va_up_ne]; exact w4
  · simp (disch := omega) only [va_up_ne, va_up_self]; omega
  · simp (disch := omega) only [va_up_ne, va_up_self]; omega
  · simp (disch := omega) only [va_up_ne, va_up_self]; omega
  · simp (disch := omega) only [va_up_ne]; exact w10
  · intro q hq
    simp (disch := omega) only [va_up_ne] at hq
    have hq2 := WL q hq
    simp (disch := omega) only [va_up_ne]; exact hq2
  · intro q hq
    simp (disch := omega) only [va_up_ne] at hq
    have hq2 := WB q hq
    by_cases hql : q = b
    · subst hql
      refine ⟨by simp (disch := omega) only [va_up_ne, va_up_self]; exact hz, fun q2 hh => ?_⟩
      simp (disch := omega) only [va_up_ne]; exact hq2.2 q2 hh
    · refine ⟨?_, fun q2 hh => ?_⟩
      · simp (disch := omega) only [va_up_ne]; exact hq2.1
      · simp (disch := omega) only [va_up_ne]; exact hq2.2 q2 hh
  · simp (disch := omega) only [va_up_ne]; exact L
  · intro w
    obtain ⟨b1, b2⟩ := B w
    refine ⟨?_, fun i hi => ?_⟩
    · simp (disch := omega) only [va_up_ne, va_up_self]; exact b1
    · simp (disch := omega) only [va_up_ne] at hi
      simp (disch := omega) only [va_up_ne]; exact b2 i hi
theorem HR_want (ho : isH o) (h : HR wr x S V a C o) {b l : Nat} (hb : (b : Int) < a 1) (hl : (l : Int) < a 0) {z : Int} (hz : 0 ≤ z ∧ z ≤ 99) : HR wr x S V (va_up a (72 + 14 * b + l) z) (va_up C (o + 4) (va_up (C (o + 4)) (12 * b + l) z)) o := by
  obtain ⟨I, T, ⟨⟨h7, h8, h9, h5, h5'⟩, HL, HB, HZ1, HZ2, HZ3⟩, ⟨⟨w0, w1, w2, w3, w4, w7, w8, w9, w10⟩, WL, WB⟩, L, B⟩ := h
  have o14 : 14 ≤ o := by unfold isH at ho; omega
  refine ⟨CI_ha I ho (by omega) (by omega), ⟨?_, ?_, ?_, ?_, ?_⟩, ⟨⟨?_, ?_, ?_, ?_, ?_⟩, ?_, ?_, ?_, ?_, ?_⟩, ⟨⟨?_, ?_, ?_, ?_, ?_, ?_, ?_, ?_, ?_⟩, ?_, ?_⟩, ?_, ?_⟩
  · simp (disch := omega) only [va_up_ne]; exact T.1
  · simp (disch := omega) only [va_up_ne]; exact T.2.1
  · simp (disch := omega) only [va_up_ne]; exact T.2.2.1
  · simp (disch := omega) only [va_up_ne]; exact T.2.2.2.1
  · intro l hl
    simp (disch := omega) only [va_up_ne] at hl
    simp (disch := omega) only [va_up_ne]; exact T.2.2.2.2 l hl
  · simp (disch := omega) only [va_up_ne, va_up_self]; exact h7
  · simp (disch := omega) only [va_up_ne, va_up_self]; exact h8
  · simp (disch := omega) only [va_up_ne, va_up_self]; exact h9
  · simp (disch := omega) only [va_up_ne, va_up_self]; exact h5
  · simp (disch := omega) only [va_up_ne, va_up_self]; exact h5'
  · intro q hq
    simp (disch := omega) only [va_up_ne] at hq
    have hq2 := HL q hq
    simp (disch := omega) only [va_up_ne]; exact hq2
  · intro q hq
    simp (disch := omega) only [va_up_ne] at hq
    have hq2 := HB q hq
    refine ⟨?_, fun q2 hh => ?_⟩
    · simp (disch := omega) only [va_up_ne]; exact hq2.1
    · by_cases hql : q = b ∧ q2 = l
      · obtain ⟨rfl, rfl⟩ := hql
        simp (disch := omega) only [va_up_self]
      · simp (disch := omega) only [va_up_ne, va_up_self]; exact hq2.2 q2 hh
  · intro q hq hq1
    simp (disch := omega) only [va_up_ne] at hq1
    simp (disch := omega) only [va_up_ne]; exact HZ1 q hq hq1
  · intro q q2 hq hq2 hq1
    simp (disch := omega) only [va_up_ne] at hq1
    simp (disch := omega) only [va_up_ne, va_up_self]; exact HZ2 q q2 hq hq2 hq1
  · intro q q2 hq hq2 hq1
    simp (disch := omega) only [va_up_ne] at hq hq1
    simp (disch := omega) only [va_up_ne]; exact HZ3 q q2 hq hq2 hq1
  · simp (disch := omega) only [va_up_ne]; exact w0
  · simp (disch := omega) only [va_up_ne]; exact w1
  · simp (disch := omega) only [va_up_ne]; exact w2
  · simp (disch := omega) only [va_up_ne]; exact w3
  · simp (disch := omega) only [va_up_ne]; exact w4
  · simp (disch := omega) only [va_up_ne, va_up_self]; omega
  · simp (disch := omega) only [va_up_ne, va_up_self]; omega
  · simp (disch := omega) only [va_up_ne, va_up_self]; omega
  · simp (disch := omega) only [va_up_ne]; exact w10
  · intro q hq
    simp (disch := omega) only [va_up_ne] at hq
    have hq2 := WL q hq
    simp (disch := omega) only [va_up_ne]; exact hq2
  · intro q hq
    simp (disch := omega) only [va_up_ne] at hq
    have hq2 := WB q hq
    refine ⟨?_, fun q2 hh => ?_⟩
    · simp (disch := omega) only [va_up_ne]; exact hq2.1
    · by_cases hql : q = b ∧ q2 = l
      · obtain ⟨rfl, rfl⟩ := hql
        simp (disch := omega) only [va_up_self]; exact hz
      · simp (disch := omega) only [va_up_ne]; exact hq2.2 q2 hh
  · simp (disch := omega) only [va_up_ne]; exact L
  · intro w
    obtain ⟨b1, b2⟩ := B w
    refine ⟨?_, fun i hi => ?_⟩
    · simp (disch := omega) only [va_up_ne, va_up_self]; exact b1
    · simp (disch := omega) only [va_up_ne] at hi
      simp (disch := omega) only [va_up_ne]; exact b2 i hi
end CR3
