def canCarryP (a : Nat → Int) (l : Int) : Prop := (0 ≤ l ∧ l < a 0) ∧ a (12 + 5 * l.toNat) = 0 ∧ a (11 + 5 * l.toNat) ≤ sfl a ∧ a (11 + 5 * l.toNat) < 5
noncomputable def dCarry (a : Nat → Int) (l : Int) : Decidable (canCarryP a l) := Classical.propDecidable _
def canBurnP (a : Nat → Int) (l : Int) : Prop := (0 ≤ l ∧ l < a 0) ∧ a (12 + 5 * l.toNat) < 2
def canBuyP (a : Nat → Int) (l p : Int) : Prop := (0 ≤ l ∧ l < a 0) ∧ 3 ≤ a (12 + 5 * l.toNat) ∧ (0 ≤ p ∧ p ≤ 999) ∧ p ≤ a 8 ∧ a (72 + 14 * (a (12 + 5 * l.toNat) - 3).toNat + l.toNat) ≤ p
def buyA (a : Nat → Int) (l : Nat) (p : Int) : Nat → Int := va_up (va_up (va_up a 8 (a 8 - p)) (71 + 14 * (a (12 + 5 * l) - 3).toNat) (clp 9999 (a (71 + 14 * (a (12 + 5 * l) - 3).toNat) + p))) (12 + 5 * l) 1
/-- yes as 1, no as 0, of any statement -/
noncomputable def bb (c : Prop) : Int := if Classical.propDecidable c |>.decide then 1 else 0
theorem bb_t {c : Prop} (h : c) : bb c = 1 := by
  unfold bb
  simp [h]
theorem bb_f {c : Prop} (h : ¬ c) : bb c = 0 := by
  unfold bb
  simp [h]
theorem bb_0 {c : Prop} : bb c = 0 ↔ ¬ c := by
  by_cases h : c
  · rw [bb_t h]; simp [h]
  · rw [bb_f h]; simp [h]
section CR7
variable {wr : Bool} {x : Nat} {S : jSt} {V : LwV} {C : Nat → Nat → Int} {a : Nat → Int} {o : Nat}
theorem c_canCarry (I : CI x S C) (T : Td a C 1) (W : WfN a) (H : Hs a C o) (ho : isH o) (l : Int) : f_X5_canCarry ((x + 413 : Nat) : Int) ((x + o : Nat) : Int) l (cS x S C) = some (bb (canCarryP a l), cS x S C) := by
  unfold f_X5_canCarry f_X5_canCarry_b47 f_X5_canCarry_b48
  have w0 := W.1
  rw [cr413_2 I, cv_1 I, c_hasLot I T W, fcall_some, if_b01]
  by_cases h : 0 ≤ l ∧ l < a 0
  · obtain ⟨e1, e2⟩ := H.2.1 l.toNat (nlt h.1 h.2)
    rw [if_pos h, crh_0 I ho, alh_1 I ho h.1 (by omega), e1]
    by_cases h2 : a (12 + 5 * l.toNat) = 0
    · rw [if_pos h2, crh_1 I ho, alh_2 I ho h.1 (by omega), e2, cv_h I ho, c_saleFloor I ho H, fcall_some]
      by_cases h3 : sfl a < a (11 + 5 * l.toNat)
      · rw [if_pos h3, bb_f (fun q => by have := q.2.2.1; omega)]
      · rw [if_neg h3, crh_1 I ho, alh_2 I ho h.1 (by omega), e2]
        by_cases h4 : 5 ≤ a (11 + 5 * l.toNat)
        · rw [if_pos h4, bb_f (fun q => by have := q.2.2.2; omega)]
        · rw [if_neg h4, bb_t ⟨h, h2, by omega, by omega⟩]
    · rw [if_neg h2, bb_f (fun q => h2 q.2.1)]
  · rw [if_neg h, bb_f (fun q => h q.1)]
theorem c_canBurn (I : CI x S C) (T : Td a C 1) (W : WfN a) (H : Hs a C o) (ho : isH o) (l : Int) : f_X5_canBurn ((x + 413 : Nat) : Int) ((x + o : Nat) : Int) l (cS x S C) = some (bb (canBurnP a l), cS x S C) := by
  unfold f_X5_canBurn f_X5_canBurn_b25 f_X5_canBurn_b26
  have w0 := W.1
  rw [cr413_2 I, cv_1 I, c_hasLot I T W, fcall_some, if_b01]
  by_cases h : 0 ≤ l ∧ l < a 0
  · obtain ⟨e1, e2⟩ := H.2.1 l.toNat (nlt h.1 h.2)
    rw [if_pos h, crh_0 I ho, alh_1 I ho h.1 (by omega), e1]
    by_cases h2 : 2 ≤ a (12 + 5 * l.toNat)
    · rw [if_pos h2, bb_f (fun q => by have := q.2; omega)]
    · rw [if_neg h2, bb_t ⟨h, by omega⟩]
  · rw [if_neg h, bb_f (fun q => h q.1)]
theorem c_canBuyBack (I : CI x S C) (T : Td a C 1) (W : Wf a) (H : Hs a C o) (ho : isH o) (l p : Int) : f_X5_canBuyBack ((x + 413 : Nat) : Int) ((x + o : Nat) : Int) l p (cS x S C) = some (bb (canBuyP a l p), cS x S C) := by
  unfold f_X5_canBuyBack f_X5_canBuyBack_b32 f_X5_canBuyBack_b71 f_X5_canBuyBack_b72
  have w0 := W.1.1
  have w1 := W.1.2.1
  rw [cr413_2 I, cv_1 I, c_hasLot I T W.1, fcall_some, if_b01]
  by_cases h : 0 ≤ l ∧ l < a 0
  · obtain ⟨e1, e2⟩ := H.2.1 l.toNat (nlt h.1 h.2)
    have wl := W.2.1 l.toNat (nlt h.1 h.2)
    rw [if_pos h, crh_0 I ho, alh_1 I ho h.1 (by omega), e1]
    by_cases h2 : a (12 + 5 * l.toNat) < 3
    · rw [if_pos h2, bb_f (fun q => by have := q.2.1; omega)]
    · rw [if_neg h2, s_within, fcall_some, if_b01]
      by_cases h3 : 0 ≤ p ∧ p ≤ 999
      · rw [if_pos h3, crh_0 I ho, alh_1 I ho h.1 (by omega), e1, flet_eq, w32_of (by omega) (by omega), cg_h I ho, H.1.2.1]
        by_cases h4 : a 8 < p
        · rw [if_pos h4, bb_f (fun q => by have := q.2.2.2.1; omega)]
        · obtain ⟨b, eb⟩ : ∃ b : Nat, a (12 + 5 * l.toNat) - 3 = (b : Int) := ⟨(a (12 + 5 * l.toNat) - 3).toNat, by omega⟩
          obtain ⟨k, ek⟩ : ∃ k : Nat, l = (k : Int) := ⟨l.toNat, by omega⟩
          subst ek
          rw [toNat_z] at *
          rw [eb, if_neg h4, crh_3 I ho, c_wantAt b k (by omega) (by omega), fcall_some, alh_4 I ho (by omega) (by omega), toNat_z, (H.2.2.1 b (by omega)).2 k (by omega)]
          have e9 : (a (12 + 5 * k) - 3).toNat = b := by omega
          by_cases h5 : p < a (72 + 14 * b + k)
          · rw [if_pos h5, bb_f (fun q => by have := q.2.2.2.2; rw [toNat_z, e9] at this; omega)]
          · rw [if_neg h5, bb_t ⟨h, by rw [toNat_z]; omega, h3, by omega, by rw [toNat_z, e9]; omega⟩]
      · rw [if_neg h3, bb_f (fun q => h3 q.2.2.1)]
  · rw [if_neg h, bb_f (fun q => h q.1)]
theorem c_buyBack (ho : isH o) (h : HR wr x S V a C o) {l : Nat} {p : Int} (hc : canBuyP a l p) : ∃ C', f_X5_buyBack ((x + 413 : Nat) : Int) ((x + o : Nat) : Int) (l : Int) p (cS x S C) = some (0, cS x S C') ∧ HR wr x S V (buyA a l p) C' o ∧ ∀ i, (i < o ∨ o + 5 < i) → C' i = C i := by
  have h0 := h
  obtain ⟨I, T, H, W, L, B⟩ := h
  obtain ⟨c1, c2, c3, c4, c5⟩ := hc
  rw [toNat_z] at c2 c5
  obtain ⟨w0, w1, w2, w3, w4, w7, w8, w9, w10⟩ := W.1
  have o14 : 14 ≤ o ∧ o + 5 < 426 := by unfold isH at ho; omega
  obtain ⟨e1, e2⟩ := H.2.1 l c1.2
  have wl := W.2.1 l c1.2
  unfold f_X5_buyBack buyA
  obtain ⟨b, eb⟩ : ∃ b : Nat, a (12 + 5 * l) - 3 = (b : Int) := ⟨(a (12 + 5 * l) - 3).toNat, by omega⟩
  rw [crh_0 I ho, alh_1 I ho (by omega) (by omega), toNat_z, e1, flet_eq, w32_of (z := a (12 + 5 * l) - 3) (by omega) (by omega), eb, toNat_z, cg_h I ho, H.1.2.1, w32_of (z := a 8 - p) (by omega) (by omega), cp_h I ho]
  have wb := W.2.2 b (by omega)
  have k1 := HR_takings ho h0 (z := a 8 - p) (by omega)
  have k2 := HR_purse ho k1 (b := b) (by simp (disch := omega) only [va_up_ne]; omega) (z := clp 9999 (a (71 + 14 * b) + p)) (clp_n _ _ (by omega))
  have k3 := HR_where ho k2 (l := l) (by simp (disch := omega) only [va_up_ne]; omega) (z := 1) (by simp (disch := omega) only [va_up_ne]; omega)
  have e3 : va_up C o (va_up (C o) 6 (a 8 - p)) (o + 3) b = a (71 + 14 * b) := by rw [va_up_ne _ _ (by omega)]; exact (H.2.2.1 b (by omega)).1
  rw [crh_2 k1.1 ho, crh_2 k1.1 ho, alh_3 k1.1 ho (by omega) (by omega), toNat_z, e3, w32_of (z := a (71 + 14 * b) + p) (by omega) (by omega), clp_i (by omega) 9999 (by omega), sth_3 k1.1 ho (by omega) (by omega), toNat_z, crh_0 k2.1 ho, sth_1 k2.1 ho (by omega) (by omega), toNat_z]
  exact ⟨_, rfl, k3, fun i hi => by rw [va_up_ne _ _ (by omega), va_up_ne _ _ (by omega), va_up_ne _ _ (by omega)]⟩
end CR7
/-- a draw of years -/
noncomputable def yearA (wr : Bool) (V : LwV) (a : Nat → Int) : Nat → Int :=
  if 3 < a 9 % 6 then (if a 7 < 9999 then pasA wr V (anewA a) else anewA a)
  else if a 0 = 0 then anewA a
  else if a 9 % 6 = 0 then (if anewA a (12 + 5 * (a 9 % a 0).toNat) = 0 then selA wr (anewA a) V (a 9 % a 0).toNat else anewA a)
  else if a 9 % 6 = 1 then (if bb (canCarryP (anewA a) (a 9 % a 0)) = 0 then anewA a else va_up (anewA a) (11 + 5 * (a 9 % a 0).toNat) (a (11 + 5 * (a 9 % a 0).toNat) + 1))
  else if a 9 % 6 = 2 then (if a 9 % 8 = 2 ∧ ¬ bb (canBurnP (anewA a) (a 9 % a 0)) = 0 then va_up (anewA a) (12 + 5 * (a 9 % a 0).toNat) 2 else anewA a)
  else if bb (canBuyP (anewA a) (a 9 % a 0) (20 + a 9 % 30)) = 0 then anewA a else buyA (anewA a) (a 9 % a 0).toNat (20 + a 9 % 30)
section CR8
variable {wr : Bool} {x : Nat} {S : jSt} {V : LwV} {C : Nat → Nat → Int} {a : Nat → Int} {o : Nat}
theorem c_drawYear (ho : isH o) (h : HR wr x S V a C o) : ∃ C', f_X5_drawYear ((x + 413 : Nat) : Int) ((x + o : Nat) : Int) (cS x S C) = some (0, cS x S C') ∧ HR wr x S V (yearA wr V a) C' o ∧ ∀ i, (i < o ∨ o + 5 < i) → i ≠ 413 → i ≠ 415 → i ≠ 416 → C' i = C i := by
  have h0 := h
  obtain ⟨I, T, H, W, L, B⟩ := h
  obtain ⟨w0, w1, w2, w3, w4, w7, w8, w9, w10⟩ := W.1
  have k1 := HR_x ho h0 (z := (a 9 * 449 + 337) % 30593) (by omega)
  have o14 : 14 ≤ o ∧ o + 5 < 426 ∧ (o + 5 < 413 ∨ 413 < o) := by unfold isH at ho; omega
  unfold f_X5_drawYear f_X5_drawYear_b175 f_X5_drawYear_b31
  rw [cv_h I ho, c_turnX I ho H W.1, fcall_some, if_neg (by decide), irem_n w9.1 (by omega) (by omega) (by omega), flet_eq]
  generalize hC1 : va_up C o (va_up (C o) 8 ((a 9 * 449 + 337) % 30593)) = C1 at *
  have f1 : ∀ i, (i < o ∨ o + 5 < i) → C1 i = C i := fun i hi => by rw [← hC1, va_up_ne _ _ (by omega)]
  have ea : va_up a 9 ((a 9 * 449 + 337) % 30593) = anewA a := rfl
  rw [ea] at k1
  have k1' := k1
  obtain ⟨I1, T1, H1, W1, L1, B1⟩ := k1
  have a7 : anewA a 7 = a 7 := rfl
  have a0 : anewA a 0 = a 0 := rfl
  unfold yearA
  by_cases q : 3 < a 9 % 6
  · rw [if_pos q, if_neg (by omega), cg_h I1 ho, H1.1.1, a7]
    by_cases q2 : a 7 < 9999
    · rw [if_pos q2, if_neg (by omega), cv_413 I1]
      obtain ⟨C2, v2, k2, f2⟩ := c_passWeek ho k1' (by rw [a7]; exact q2)
      rw [v2, fcall_some]
      exact ⟨C2, rfl, k2, fun i q1 q2 q3 q4 => (f2 i q1 q2 q3 q4).trans (f1 i q1)⟩
    · rw [if_neg q2, if_pos (by omega)]
      exact ⟨C1, rfl, k1', fun i q1 _ _ _ => f1 i q1⟩
  · rw [if_neg q, if_pos (by omega), cr413_2 I1, cg_1 I1, T1.1, a0]
    by_cases q2 : a 0 = 0
    · rw [if_pos q2, if_pos q2]
      exact ⟨C1, rfl, k1', fun i q1 _ _ _ => f1 i q1⟩
    · rw [if_neg q2, if_neg q2, cr413_2 I1, cg_1 I1, T1.1, a0, if_neg q2, irem_n w9.1 (by omega) (by omega) (by omega), flet_eq]
      have hm : 0 ≤ a 9 % a 0 ∧ a 9 % a 0 < a 0 := ⟨Int.emod_nonneg _ (by omega), Int.emod_lt_of_pos _ (by omega)⟩
      obtain ⟨l, el⟩ : ∃ l : Nat, a 9 % a 0 = (l : Int) := ⟨(a 9 % a 0).toNat, by omega⟩
      rw [el] at hm ⊢
      rw [toNat_z]
      by_cases q3 : a 9 % 6 = 0
      · rw [if_pos q3, if_pos q3, cv_413 I1]
        obtain ⟨c2, v2, k2, g2, f2⟩ := c_findWinner ho k1' (l := l) (by rw [a0]; omega)
        obtain ⟨c3, v3, k3, f3⟩ := c_handOver ho k2 (l := l) (by rw [a0]; omega) g2
        rw [v2, fcall_some, cv_413 k2.1, v3, fcall_some]
        refine ⟨c3, rfl, ?_, fun i q1 q2 q3 q4 => (f3 i q1).trans ((f2 i q2 q3 q4).trans (f1 i q1))⟩
        unfold wnv at k3
        by_cases q4 : anewA a (12 + 5 * l) = 0
        · rw [if_pos q4]
          rw [if_pos q4] at k3
          exact k3
        · rw [if_neg q4]
          rw [if_neg q4, if_pos rfl] at k3
          exact k3
      · rw [if_neg q3, if_neg q3]
        by_cases q4 : a 9 % 6 = 1
        · rw [if_pos q4, if_pos q4, cv_413 I1, c_canCarry I1 T1 W1.1 H1 ho, fcall_some]
          by_cases q5 : bb (canCarryP (anewA a) (l : Int)) = 0
          · unfold f_X5_drawYear_b105 f_X5_drawYear_b139 f_X5_drawYear_b175
            rw [if_pos q5, if_pos q5, if_neg (by omega), if_neg (by omega)]
            exact ⟨C1, rfl, k1', fun i q1 _ _ _ => f1 i q1⟩
          · have hq : canCarryP (anewA a) (l : Int) := Classical.byContradiction (fun z => q5 (bb_0.mpr z))
            obtain ⟨c1, c2, c3, c4⟩ := hq
            rw [toNat_z] at c4
            obtain ⟨e1, e2⟩ := H1.2.1 l (by rw [a0]; omega)
            have e3 : anewA a (11 + 5 * l) = a (11 + 5 * l) := by unfold anewA; rw [va_up_ne _ _ (by omega)]
            rw [e3] at e2 c4
            have wl := W.2.1 l (by omega)
            rw [if_neg q5, if_neg q5, crh_1 I1 ho, alh_2 I1 ho (by omega) (by omega), toNat_z, e2, w32_of (by omega) (by omega), sth_2 I1 ho (by omega) (by omega), toNat_z]
            have k2 := HR_floor ho k1' (l := l) (by rw [a0]; omega) (z := a (11 + 5 * l) + 1) (by omega)
            exact ⟨_, rfl, k2, fun i q1 _ _ _ => by rw [va_up_ne _ _ (by omega)]; exact f1 i q1⟩
        · rw [if_neg q4, if_neg q4]
          unfold f_X5_drawYear_b105
          by_cases q5 : a 9 % 6 = 2
          · rw [if_pos q5, if_pos q5, if_neg (by decide), irem_n w9.1 (by omega) (by omega) (by omega)]
            unfold f_X5_drawYear_b139 f_X5_drawYear_b175
            by_cases q6 : a 9 % 8 = 2
            · rw [if_pos q6, cv_413 I1, c_canBurn I1 T1 W1.1 H1 ho, fcall_some]
              by_cases q7 : bb (canBurnP (anewA a) (l : Int)) = 0
              · rw [if_pos q7, if_neg (by omega), if_neg (fun z => z.2 q7)]
                exact ⟨C1, rfl, k1', fun i q1 _ _ _ => f1 i q1⟩
              · rw [if_neg q7, if_pos ⟨q6, q7⟩, crh_0 I1 ho, sth_1 I1 ho (by omega) (by omega), toNat_z]
                have k2 := HR_where ho k1' (l := l) (by rw [a0]; omega) (z := 2) (by show (0 : Int) ≤ 2 ∧ 2 < 3 + a 1; omega)
                exact ⟨_, rfl, k2, fun i q1 _ _ _ => by rw [va_up_ne _ _ (by omega)]; exact f1 i q1⟩
            · rw [if_neg q6, if_neg (by omega), if_neg (fun z => q6 z.1)]
              exact ⟨C1, rfl, k1', fun i q1 _ _ _ => f1 i q1⟩
          · unfold f_X5_drawYear_b139 f_X5_drawYear_b175
            rw [if_neg q5, if_neg q5, if_pos (by omega), if_neg (by decide), irem_n w9.1 (by omega) (by omega) (by omega), w32_of (by omega) (by omega), cv_413 I1, c_canBuyBack I1 T1 W1 H1 ho, fcall_some]
            by_cases q7 : bb (canBuyP (anewA a) (l : Int) (20 + a 9 % 30)) = 0
            · rw [if_pos q7, if_pos q7]
              exact ⟨C1, rfl, k1', fun i q1 _ _ _ => f1 i q1⟩
            · have hq : canBuyP (anewA a) (l : Int) (20 + a 9 % 30) := Classical.byContradiction (fun z => q7 (bb_0.mpr z))
              obtain ⟨C2, v2, k2, f2⟩ := c_buyBack ho k1' hq
              rw [if_neg q7, if_neg q7, if_neg (by decide), cv_413 I1, v2, fcall_some]
              exact ⟨C2, rfl, k2, fun i q1 _ _ _ => (f2 i q1).trans (f1 i q1)⟩
end CR8
