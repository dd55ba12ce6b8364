def anewA (a : Nat → Int) : Nat → Int := va_up a 9 ((a 9 * 449 + 337) % 30593)
def warmA (a : Nat → Int) (V : LwV) (l : Nat) : Nat → Int := if a 9 % 10 < wrmv (anewA a) V (a 3) l then va_up (anewA a) (72 + 14 * (a 9 % 10 % a 1).toNat + l) (clp 99 (a (72 + 14 * (a 9 % 10 % a 1).toNat + l) + 5)) else anewA a
def pasS (wr : Bool) (V : LwV) (f : Int) (a : Nat → Int) : Nat → (Nat → Int) × Int
  | 0 => (a, 0)
  | n + 1 => if (pasS wr V f a n).1 (12 + 5 * n) = 0 ∧ (pasS wr V f a n).1 (11 + 5 * n) = f ∧ ¬ a 1 = 0 then (selA wr (warmA (pasS wr V f a n).1 V n) V n, if winv (warmA (pasS wr V f a n).1 V n) V n = -1 then (pasS wr V f a n).2 else (pasS wr V f a n).2 + 1) else pasS wr V f a n
def pasA (wr : Bool) (V : LwV) (a : Nat → Int) : Nat → Int := va_up (pasS wr V (sfl a) a (a 0).toNat).1 7 (a 7 + 1)
def pasN (wr : Bool) (V : LwV) (a : Nat → Int) : Int := (pasS wr V (sfl a) a (a 0).toNat).2
-- what stays
theorem soldA_lo (wr : Bool) (a : Nat → Int) (l w : Nat) (p : Int) {k : Nat} (h : k < 8) : soldA wr a l w p k = a k := by
  unfold soldA
  have e : va_up (va_up (va_up a (71 + 14 * w) (a (71 + 14 * w) - p)) 8 (clp 99999 (a 8 + p))) (12 + 5 * l) (3 + (w : Int)) k = a k := by
    simp (disch := omega) only [va_up_ne]
  split
  · rw [bookA_lo _ _ _ _ (by omega) (by omega), e]
  · exact e
theorem selA_lo (wr : Bool) (a : Nat → Int) (V : LwV) (l : Nat) {k : Nat} (h : k < 8) : selA wr a V l k = a k := by
  unfold selA
  split
  · rfl
  · exact soldA_lo wr a l _ _ h
theorem warmA_lo (a : Nat → Int) (V : LwV) (l : Nat) {k : Nat} (h : k < 71) (h2 : k ≠ 9) : warmA a V l k = a k := by
  unfold warmA
  split
  · rw [va_up_ne _ _ (by omega)]
    unfold anewA
    rw [va_up_ne _ _ h2]
  · unfold anewA
    rw [va_up_ne _ _ h2]
theorem pasS_lo (wr : Bool) (V : LwV) (f : Int) (a : Nat → Int) {k : Nat} (h : k < 8) : ∀ n, (pasS wr V f a n).1 k = a k
  | 0 => rfl
  | n + 1 => by
    have ih := pasS_lo wr V f a h n
    unfold pasS
    split
    · show selA wr (warmA (pasS wr V f a n).1 V n) V n k = _
      rw [selA_lo _ _ _ _ h, warmA_lo _ _ _ (by omega) (by omega), ih]
    · exact ih
section CR6
variable {wr : Bool} {x : Nat} {S : jSt} {V : LwV} {C : Nat → Nat → Int} {a : Nat → Int} {o : Nat}
theorem clp_i {z : Int} (h : 0 ≤ z) (top : Int) (ht : 0 ≤ top) : imin top z = clp top z := by
  unfold imin clp
  (repeat' split) <;> omega
theorem c_handOver (ho : isH o) (h : HR wr x S V a C o) {l : Nat} (hl : (l : Int) < a 0) (h413 : C 413 0 = wnv a V l ∧ C 413 1 = if wnv a V l = -1 then -1 else pricev a V l) : ∃ C', f_X5_handOver ((x + 413 : Nat) : Int) ((x + o : Nat) : Int) (l : Int) (cS x S C) = some (b01 (¬ wnv a V l = -1), cS x S C') ∧ HR wr x S V (if wnv a V l = -1 then a else soldA wr a l (wnv a V l).toNat (pricev a V l)) C' o ∧ ∀ i, (i < o ∨ o + 5 < i) → C' i = C i := by
  have h0 := h
  obtain ⟨I, T, H, W, L, B⟩ := h
  unfold f_X5_handOver
  rw [cg_413 I, h413.1]
  by_cases hw : wnv a V l = -1
  · rw [if_pos hw, if_pos hw]
    refine ⟨C, ?_, h0, fun _ _ => rfl⟩
    unfold b01
    rw [if_neg (fun q => q hw)]
  · rw [if_neg hw] at h413
    rw [if_neg hw, if_neg hw]
    obtain ⟨w0, w1, w2, w3, w4, w7, w8, w9, w10⟩ := W.1
    have hwin : winv a V l = wnv a V l := by
      unfold wnv at hw ⊢
      by_cases q : a (12 + 5 * l) = 0
      · rw [if_pos q]
      · rw [if_neg q] at hw
        exact absurd rfl hw
    have hn := winv_n (V := V) W l
    rw [hwin] at hn
    obtain ⟨n1, n2, n3, n4⟩ := hn.resolve_left hw
    obtain ⟨w, ew⟩ : ∃ w : Nat, wnv a V l = (w : Int) := ⟨(wnv a V l).toNat, by omega⟩
    rw [ew] at n1 n2 n4 h413 ⊢
    rw [toNat_z] at n4 ⊢
    have wb := W.2.2 w n2
    have wl := W.2.1 l hl
    generalize hp : pricev a V l = p at *
    have k1 := HR_purse ho h0 n2 (z := a (71 + 14 * w) - p) (by omega)
    have k2 := HR_takings ho k1 (z := clp 99999 (a 8 + p)) (clp_n _ _ (by omega))
    have k3 := HR_where ho k2 (l := l) (by simp (disch := omega) only [va_up_ne]; exact hl) (z := 3 + (w : Int)) (by simp (disch := omega) only [va_up_ne]; omega)
    have k4 := HR_book ho k3 (l := l) (b := w) (p := p) (by omega) (by omega) (by omega)
    have J1 := k1.1
    have J2 := k2.1
    have J3 := k3.1
    have o14 : 14 ≤ o ∧ o + 5 < 426 ∧ (o + 5 < 413 ∨ 413 < o) := by unfold isH at ho; omega
    have m1 : ∀ z : Nat → Int, va_up C (o + 3) z 413 = C 413 := fun z => va_up_ne _ _ (by omega)
    have e8 : va_up C (o + 3) (va_up (C (o + 3)) w (a (71 + 14 * w) - p)) o 6 = a 8 := by rw [va_up_ne _ _ (by omega)]; exact H.1.2.1
    rw [crh_2 I ho, cg_413 I, h413.1, alh_3 I ho (by omega) (by omega), toNat_z, (H.2.2.1 w n2).1, cg_413 I, h413.2, w32_of (z := a (71 + 14 * w) - p) (by omega) (by omega), sth_3 I ho (by omega) (by omega), toNat_z, cg_h J1 ho, e8, cg_413 J1, m1, h413.2, w32_of (z := a 8 + p) (by omega) (by omega), clp_i (by omega) 99999 (by omega), cp_h J1 ho, crh_0 J2 ho, cg_413 J2]
    have m2 : va_up (va_up C (o + 3) (va_up (C (o + 3)) w (a (71 + 14 * w) - p))) o (va_up (va_up C (o + 3) (va_up (C (o + 3)) w (a (71 + 14 * w) - p)) o) 6 (clp 99999 (a 8 + p))) 413 = C 413 := by rw [va_up_ne _ _ (by omega), va_up_ne _ _ (by omega)]
    rw [m2, h413.1, w32_of (z := 3 + (w : Int)) (by omega) (by omega), sth_1 J2 ho (by omega) (by omega), toNat_z, cg_413 J3, cg_413 J3]
    have m3 : ∀ z : Nat → Int, va_up (va_up (va_up C (o + 3) (va_up (C (o + 3)) w (a (71 + 14 * w) - p))) o (va_up (va_up C (o + 3) (va_up (C (o + 3)) w (a (71 + 14 * w) - p)) o) 6 (clp 99999 (a 8 + p)))) (o + 1) z 413 = C 413 := fun z => by rw [va_up_ne _ _ (by omega), m2]
    rw [m3, h413.1, h413.2, cv_h J3 ho, c_writeDown J3 ho ⟨k3.2.2.1.1.2.2.2.1, k3.2.2.1.1.2.2.2.2⟩, fcall_some]
    have eb : b01 (¬ (w : Int) = -1) = 1 := by unfold b01; rw [if_pos (by omega)]
    rw [eb]
    exact ⟨_, rfl, k4, fun i hi => by rw [wdC_o _ _ _ _ _ (by omega) (by omega), va_up_ne _ _ (by omega), va_up_ne _ _ (by omega), va_up_ne _ _ (by omega)]⟩
theorem c_turnX (I : CI x S C) (ho : isH o) (H : Hs a C o) (W : WfN a) : f_X1_turnX ((x + o : Nat) : Int) (cS x S C) = some (a 9, cS x S (va_up C o (va_up (C o) 8 ((a 9 * 449 + 337) % 30593)))) := by
  unfold f_X1_turnX
  obtain ⟨w0, w1, w2, w3, w4, w7, w8, w9, w10⟩ := W
  rw [cg_h I ho, cg_h I ho, H.1.2.2.1, if_neg (by decide), w32_of (z := a 9 * 449) (by omega) (by omega), w32_of (by omega) (by omega), irem_n (by omega) (by omega) (by omega) (by omega), cp_h I ho]
theorem c_warm (ho : isH o) (h : HR wr x S V a C o) {l : Nat} (hl : (l : Int) < a 0) (hb : 0 < a 1) : ∃ C', f_X5_warm ((x + 413 : Nat) : Int) ((x + o : Nat) : Int) (l : Int) (cS x S C) = some (0, cS x S C') ∧ HR wr x S V (warmA a V l) C' o ∧ ∀ i, (i < o ∨ o + 5 < i) → i ≠ 413 → i ≠ 415 → i ≠ 416 → C' i = C i := by
  have h0 := h
  obtain ⟨I, T, H, W, L, B⟩ := h
  obtain ⟨w0, w1, w2, w3, w4, w7, w8, w9, w10⟩ := W.1
  have k1 := HR_x ho h0 (z := (a 9 * 449 + 337) % 30593) (by omega)
  have o14 : 14 ≤ o ∧ o + 5 < 426 ∧ (o + 5 < 413 ∨ 413 < o) := by unfold isH at ho; omega
  unfold f_X5_warm f_X5_warm_b78
  rw [cv_h I ho, c_turnX I ho H W.1, fcall_some, if_neg (by decide), irem_n w9.1 (by omega) (by omega) (by omega), flet_eq]
  generalize hC1 : va_up C o (va_up (C o) 8 ((a 9 * 449 + 337) % 30593)) = C1 at *
  have f1 : ∀ i, (i < o ∨ o + 5 < i) → C1 i = C i := fun i hi => by rw [← hC1, va_up_ne _ _ (by omega)]
  have ea : va_up a 9 ((a 9 * 449 + 337) % 30593) = anewA a := rfl
  rw [ea] at k1
  have k1' := k1
  obtain ⟨I1, T1, H1, W1, L1, B1⟩ := k1
  have a1 : anewA a 1 = a 1 := rfl
  have a3 : anewA a 3 = a 3 := rfl
  have a0 : anewA a 0 = a 0 := rfl
  have a2 : anewA a 2 = a 2 := rfl
  rw [cr413_2 I1, cg_1 I1, T1.2.1, a1, if_neg (by omega), cr413_2 I1, cr413_2 I1, cg_1 I1, T1.2.2.2.1, a3, cv_1 I1, c_scriptOf I1 T1 W1.1, fcall_some, cv_413 I1]
  obtain ⟨C2, v2, I2, f2⟩ := c_warmsBy ho k1' (l := l) (by rw [a0]; exact hl) (t := a 3) (by rw [a2]; omega)
  rw [v2, fcall_some]
  have k2 := HR_fr ho k1' I2 (fun i _ q2 q3 => f2 i q2 q3)
  have f12 : ∀ i, (i < o ∨ o + 5 < i) → i ≠ 413 → i ≠ 415 → i ≠ 416 → C2 i = C i := fun i q1 _ q2 q3 => (f2 i q2 q3).trans (f1 i q1)
  unfold warmA
  by_cases q : a 9 % 10 < wrmv (anewA a) V (a 3) l
  · rw [if_pos q, if_neg (by omega), cr413_2 I2, cg_1 I2, k2.2.1.2.1, a1, if_neg (by omega), irem_n (by omega) (by omega) (by omega) (by omega)]
    have hm : 0 ≤ a 9 % 10 % a 1 ∧ a 9 % 10 % a 1 < a 1 := ⟨Int.emod_nonneg _ (by omega), Int.emod_lt_of_pos _ hb⟩
    obtain ⟨b, eb⟩ : ∃ b : Nat, a 9 % 10 % a 1 = (b : Int) := ⟨(a 9 % 10 % a 1).toNat, by omega⟩
    rw [eb] at hm ⊢
    rw [toNat_z]
    have e9 : anewA a (72 + 14 * b + l) = a (72 + 14 * b + l) := by unfold anewA; rw [va_up_ne _ _ (by omega)]
    have wb := (W.2.2 b hm.2).2 l (by omega)
    have k3 := HR_want ho k2 (b := b) (l := l) (by rw [a1]; omega) (by rw [a0]; exact hl) (z := clp 99 (a (72 + 14 * b + l) + 5)) (clp_n _ _ (by omega))
    rw [c_wantAt b l (by omega) (by omega), fcall_some, crh_3 I2 ho, crh_3 I2 ho, alh_4 I2 ho (by omega) (by omega), toNat_z, (k2.2.2.1.2.2.1 b (by rw [a1]; omega)).2 l (by omega), e9, w32_of (by omega) (by omega), clp_i (by omega) 99 (by omega), sth_4 I2 ho (by omega) (by omega), toNat_z]
    exact ⟨_, rfl, k3, fun i q1 q2 q3 q4 => by rw [va_up_ne _ _ (by omega)]; exact f12 i q1 q2 q3 q4⟩
  · rw [if_neg q, if_pos (by omega)]
    exact ⟨C2, rfl, k2, f12⟩
theorem c_passWeek (ho : isH o) (h : HR wr x S V a C o) (h7 : a 7 < 9999) : ∃ C', f_X5_passWeek ((x + 413 : Nat) : Int) ((x + o : Nat) : Int) (cS x S C) = some (pasN wr V a, cS x S C') ∧ HR wr x S V (pasA wr V a) C' o ∧ ∀ i, (i < o ∨ o + 5 < i) → i ≠ 413 → i ≠ 415 → i ≠ 416 → C' i = C i := by
  have h0 := h
  obtain ⟨I, T, H, W, L, B⟩ := h
  obtain ⟨w0, w1, w2, w3, w4, w7, w8, w9, w10⟩ := W.1
  have o14 : 14 ≤ o ∧ o + 5 < 426 ∧ (o + 5 < 413 ∨ 413 < o) := by unfold isH at ho; omega
  unfold f_X5_passWeek f_X5_passWeek_b10
  rw [cv_h I ho, c_saleFloor I ho H, fcall_some]
  have hcount : ∀ n, 0 ≤ (pasS wr V (sfl a) a n).2 ∧ (pasS wr V (sfl a) a n).2 ≤ n := by
    intro n
    induction n with
    | zero => exact ⟨Int.le_refl _, Int.le_refl _⟩
    | succ n ih =>
      unfold pasS
      split
      · show 0 ≤ (if winv (warmA (pasS wr V (sfl a) a n).1 V n) V n = -1 then (pasS wr V (sfl a) a n).2 else (pasS wr V (sfl a) a n).2 + 1) ∧ (if winv (warmA (pasS wr V (sfl a) a n).1 V n) V n = -1 then (pasS wr V (sfl a) a n).2 else (pasS wr V (sfl a) a n).2 + 1) ≤ _
        split <;> omega
      · omega
  refine lpe (fun (r : Int → Int → Int → Int → Int → fK) i (c : Nat → Nat → Int) => r ((x + 413 : Nat) : Int) ((x + o : Nat) : Int) (sfl a) (pasS wr V (sfl a) a i).2 (i : Int) (cS x S c)) (fun i c => HR wr x S V (pasS wr V (sfl a) a i).1 c o ∧ ∀ i, (i < o ∨ o + 5 < i) → i ≠ 413 → i ≠ 415 → i ≠ 416 → c i = C i) (fun r => ∃ C', r = some (pasN wr V a, cS x S C') ∧ HR wr x S V (pasA wr V a) C' o ∧ ∀ i, (i < o ∨ o + 5 < i) → i ≠ 413 → i ≠ 415 → i ≠ 416 → C' i = C i) (N := (a 0).toNat) ?_ ?_ jN 0 C (by omega) (by unfold jN; omega) ⟨h0, fun _ _ _ _ _ => rfl⟩
  · intro r i c hi hinv ih
    obtain ⟨hc, cf⟩ := hinv
    show ∃ C', f_X5_passWeek_b10B r _ _ _ _ _ _ = _ ∧ _
    unfold f_X5_passWeek_b10B f_X5_passWeek_b72
    have p0 : (pasS wr V (sfl a) a i).1 0 = a 0 := pasS_lo wr V (sfl a) a (by omega) i
    have p1 : (pasS wr V (sfl a) a i).1 1 = a 1 := pasS_lo wr V (sfl a) a (by omega) i
    have hcnt := hcount i
    have est : pasS wr V (sfl a) a (i + 1) = if (pasS wr V (sfl a) a i).1 (12 + 5 * i) = 0 ∧ (pasS wr V (sfl a) a i).1 (11 + 5 * i) = sfl a ∧ ¬ a 1 = 0 then (selA wr (warmA (pasS wr V (sfl a) a i).1 V i) V i, if winv (warmA (pasS wr V (sfl a) a i).1 V i) V i = -1 then (pasS wr V (sfl a) a i).2 else (pasS wr V (sfl a) a i).2 + 1) else pasS wr V (sfl a) a i := by
      conv => lhs; unfold pasS
    generalize hp : pasS wr V (sfl a) a i = p at *
    have Ic := hc.1
    rw [cr413_2 Ic, cg_1 Ic, hc.2.1.1, p0, if_neg (by omega), cv_h Ic ho, c_keepsAt Ic ho hc.2.2.1 hc.2.2.2.1.1 (by omega) (by rw [p0]; omega), fcall_some, if_b01, toNat_z]
    simp only [flet_eq]
    rw [w32_of (z := (i : Int) + 1) (by omega) (by omega), zs]
    by_cases q : p.1 (12 + 5 * i) = 0 ∧ p.1 (11 + 5 * i) = sfl a
    · rw [if_pos q, cr413_2 Ic, cg_1 Ic, hc.2.1.2.1, p1]
      by_cases q2 : a 1 = 0
      · rw [if_pos q2]
        rw [if_neg (fun z => z.2.2 q2)] at est
        have := ih c (by rw [est]; exact ⟨hc, cf⟩)
        rw [est] at this
        exact this
      · rw [if_neg q2]
        rw [if_pos ⟨q.1, q.2, q2⟩] at est
        obtain ⟨c1, v1, k1, f1⟩ := c_warm ho hc (l := i) (by rw [p0]; omega) (by rw [p1]; omega)
        have p0' : warmA p.1 V i 0 = a 0 := by rw [warmA_lo _ _ _ (by omega) (by omega), p0]
        obtain ⟨c2, v2, k2, g2, f2⟩ := c_findWinner ho k1 (l := i) (by rw [p0']; omega)
        obtain ⟨c3, v3, k3, f3⟩ := c_handOver ho k2 (l := i) (by rw [p0']; omega) g2
        have ew : wnv (warmA p.1 V i) V i = winv (warmA p.1 V i) V i := by
          unfold wnv
          rw [warmA_lo _ _ _ (by omega) (by omega), if_pos q.1]
        rw [ew] at k3 v3
        rw [cv_413 Ic, v1, fcall_some, cv_413 k1.1, v2, fcall_some, cv_413 k2.1, v3, fcall_some, if_b01]
        have f123 : ∀ j, (j < o ∨ o + 5 < j) → j ≠ 413 → j ≠ 415 → j ≠ 416 → c3 j = C j := fun j q1 q2 q3 q4 => (f3 j q1).trans ((f2 j q2 q3 q4).trans ((f1 j q1 q2 q3 q4).trans (cf j q1 q2 q3 q4)))
        have k3' : HR wr x S V (selA wr (warmA p.1 V i) V i) c3 o := k3
        have := ih c3 (by rw [est]; exact ⟨k3', f123⟩)
        rw [est] at this
        by_cases q3 : winv (warmA p.1 V i) V i = -1
        · rw [if_neg (fun z => z q3)]
          simp only [if_pos q3] at this
          exact this
        · rw [if_pos q3, w32_of (by omega) (by omega)]
          simp only [if_neg q3] at this
          exact this
    · rw [if_neg q]
      rw [if_neg (fun z => q ⟨z.1, z.2.1⟩)] at est
      have := ih c (by rw [est]; exact ⟨hc, cf⟩)
      rw [est] at this
      exact this
  · intro r c hinv
    obtain ⟨hc, cf⟩ := hinv
    show ∃ C', f_X5_passWeek_b10B r _ _ _ _ _ _ = _ ∧ _
    unfold f_X5_passWeek_b10B
    have p0 : (pasS wr V (sfl a) a (a 0).toNat).1 0 = a 0 := pasS_lo wr V (sfl a) a (by omega) _
    have p7 : (pasS wr V (sfl a) a (a 0).toNat).1 7 = a 7 := pasS_lo wr V (sfl a) a (by omega) _
    have Ic := hc.1
    rw [cr413_2 Ic, cg_1 Ic, hc.2.1.1, p0, if_pos (by omega), cg_h Ic ho, hc.2.2.1.1.1, p7, w32_of (by omega) (by omega), cp_h Ic ho]
    have k := HR_week ho hc (z := a 7 + 1) (by omega)
    exact ⟨_, rfl, k, fun i q1 q2 q3 q4 => by rw [va_up_ne _ _ (by omega)]; exact cf i q1 q2 q3 q4⟩
end CR6
