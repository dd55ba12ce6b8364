-- the image: what is told, the house and the steps are copied
section CT
variable {x : Nat} {S : jSt} {C : Nat → Nat → Int} {t d o : Nat}
theorem cg_t (I : CI x S C) (ht : isT t) {k : Nat} {f : Int → Option (Int × jSt)} : fget (cS x S C) ((x + t : Nat) : Int) 10 k f = f (C t k) := by
  rcases ht with rfl | rfl
  · exact cg_1 I
  · exact cg_202 I
theorem cp_t (I : CI x S C) (ht : isT t) {k : Nat} {z : Int} {f : jSt → Option (Int × jSt)} : fput (cS x S C) ((x + t : Nat) : Int) 10 k z f = f (cS x S (va_up C t (va_up (C t) k z))) := by
  rcases ht with rfl | rfl
  · exact cp_1 I
  · exact cp_202 I
theorem crt_2 (I : CI x S C) (ht : isT t) {f : Int → Option (Int × jSt)} : fgetr (cS x S C) ((x + t : Nat) : Int) 10 2 f = f ((x + (t + 1) : Nat) : Int) := by
  rcases ht with rfl | rfl <;> exact c_r I (by decide) rfl rfl (by decide)
theorem crt_3 (I : CI x S C) (ht : isT t) {f : Int → Option (Int × jSt)} : fgetr (cS x S C) ((x + t : Nat) : Int) 10 3 f = f ((x + (t + 2) : Nat) : Int) := by
  rcases ht with rfl | rfl <;> exact c_r I (by decide) rfl rfl (by decide)
theorem crt_5 (I : CI x S C) (ht : isT t) {f : Int → Option (Int × jSt)} : fgetr (cS x S C) ((x + t : Nat) : Int) 10 5 f = f ((x + (t + 3) : Nat) : Int) := by
  rcases ht with rfl | rfl <;> exact c_r I (by decide) rfl rfl (by decide)
theorem crt_8 (I : CI x S C) (ht : isT t) {f : Int → Option (Int × jSt)} : fgetr (cS x S C) ((x + t : Nat) : Int) 10 8 f = f ((x + (t + 4) : Nat) : Int) := by
  rcases ht with rfl | rfl <;> exact c_r I (by decide) rfl rfl (by decide)
theorem crt_9 (I : CI x S C) (ht : isT t) {f : Int → Option (Int × jSt)} : fgetr (cS x S C) ((x + t : Nat) : Int) 10 9 f = f ((x + (t + 5) : Nat) : Int) := by
  rcases ht with rfl | rfl <;> exact c_r I (by decide) rfl rfl (by decide)
theorem crt_10 (I : CI x S C) (ht : isT t) {f : Int → Option (Int × jSt)} : fgetr (cS x S C) ((x + t : Nat) : Int) 10 10 f = f ((x + (t + 6) : Nat) : Int) := by
  rcases ht with rfl | rfl <;> exact c_r I (by decide) rfl rfl (by decide)
theorem crt_12 (I : CI x S C) (ht : isT t) {f : Int → Option (Int × jSt)} : fgetr (cS x S C) ((x + t : Nat) : Int) 10 12 f = f ((x + (t + 7) : Nat) : Int) := by
  rcases ht with rfl | rfl <;> exact c_r I (by decide) rfl rfl (by decide)
theorem crt_13 (I : CI x S C) (ht : isT t) {f : Int → Option (Int × jSt)} : fgetr (cS x S C) ((x + t : Nat) : Int) 10 13 f = f ((x + (t + 8) : Nat) : Int) := by
  rcases ht with rfl | rfl <;> exact c_r I (by decide) rfl rfl (by decide)
theorem crt_14 (I : CI x S C) (ht : isT t) {f : Int → Option (Int × jSt)} : fgetr (cS x S C) ((x + t : Nat) : Int) 10 14 f = f ((x + (t + 9) : Nat) : Int) := by
  rcases ht with rfl | rfl <;> exact c_r I (by decide) rfl rfl (by decide)
theorem crt_15 (I : CI x S C) (ht : isT t) {f : Int → Option (Int × jSt)} : fgetr (cS x S C) ((x + t : Nat) : Int) 10 15 f = f ((x + (t + 11) : Nat) : Int) := by
  rcases ht with rfl | rfl <;> exact c_r I (by decide) rfl rfl (by decide)
theorem crt_9a (I : CI x S C) (ht : isT t) {f : Int → Option (Int × jSt)} : fgetr (cS x S C) ((x + (t + 9) : Nat) : Int) 7 0 f = f ((x + (t + 10) : Nat) : Int) := by
  rcases ht with rfl | rfl <;> exact c_r I (by decide) rfl rfl (by decide)
theorem crt_11a (I : CI x S C) (ht : isT t) {f : Int → Option (Int × jSt)} : fgetr (cS x S C) ((x + (t + 11) : Nat) : Int) 3 0 f = f ((x + (t + 12) : Nat) : Int) := by
  rcases ht with rfl | rfl <;> exact c_r I (by decide) rfl rfl (by decide)
def lenT (j : Nat) : Nat := if j < 3 then 12 else if j < 9 then 8 else 6
def arT (j : Nat) : Prop := j = 1 ∨ j = 2 ∨ j = 4 ∨ j = 5 ∨ j = 6 ∨ j = 7 ∨ j = 8 ∨ j = 10 ∨ j = 12
theorem ct_t (ht : isT t) {j : Nat} (hj : arT j) : ctyp (t + j) = (1, lenT j) := by
  rcases ht with rfl | rfl <;> rcases hj with rfl | rfl | rfl | rfl | rfl | rfl | rfl | rfl | rfl <;> rfl
theorem lnt (I : CI x S C) (ht : isT t) {j : Nat} (hj : arT j) (h3 : j < 3) {f : Int → Option (Int × jSt)} : flen (cS x S C) ((x + (t + j) : Nat) : Int) 1 f = f 12 := by
  have e := ct_t ht hj
  rw [show lenT j = 12 from if_pos h3] at e
  exact c_ln I (by rcases ht with rfl | rfl <;> omega) e (by decide)
theorem CI_ta (I : CI x S C) (ht : isT t) {j : Nat} (hj : arT j ∨ j = 3) {v : Nat → Int} : CI x S (va_up C (t + j) v) := by
  rcases hj with hj | rfl
  · rcases ht with rfl | rfl <;> rcases hj with rfl | rfl | rfl | rfl | rfl | rfl | rfl | rfl | rfl <;> exact CI_ar I (fun k => rfl)
  · rcases ht with rfl | rfl <;> exact CI_ar I (fun k => rfl)
theorem CI_ts (I : CI x S C) (ht : isT t) {k : Nat} (hk : k = 0 ∨ k = 1 ∨ k = 4 ∨ k = 6 ∨ k = 7 ∨ k = 11) {z : Int} : CI x S (va_up C t (va_up (C t) k z)) := by
  rcases ht with rfl | rfl <;> rcases hk with rfl | rfl | rfl | rfl | rfl | rfl <;> exact CI_up I rfl
/-- one slot of the texts -/
theorem c_cpS1 (I : CI x S C) (hd : isT d) (ho : isT o) {k : Nat} (hk : k < 4) (hN : C (o + 3) k < 0 ∨ jty S (C (o + 3) k) = (0, 6)) (r : Int → Int → Int → jSt → Option (Int × jSt)) : f_X10_copyFrom_b203B r ((x + d : Nat) : Int) ((x + o : Nat) : Int) (k : Int) (cS x S C) = r ((x + d : Nat) : Int) ((x + o : Nat) : Int) ((k + 1 : Nat) : Int) (cS x S (va_up C (d + 3) (va_up (C (d + 3)) k (C (o + 3) k)))) := by
  unfold f_X10_copyFrom_b203B
  have to : ctyp (o + 3) = (5, 4) := by rcases ho with rfl | rfl <;> rfl
  have td : ctyp (d + 3) = (5, 4) := by rcases hd with rfl | rfl <;> rfl
  have lo : o + 3 < 426 := by rcases ho with rfl | rfl <;> omega
  have ld : d + 3 < 426 := by rcases hd with rfl | rfl <;> omega
  rw [if_neg (by omega), crt_5 I hd, crt_5 I ho, c_al I lo to (by omega) (by omega), toNat_z]
  have e : jty (cS x S C) ((x + (d + 3) : Nat) : Int) = (5, 4) := by rw [gS_ty, gS_tyn]; exact (I.1 _ ld).trans td
  unfold fastr
  rw [e, if_pos ⟨rfl, by omega, by show (k : Int) < ((4 : Nat) : Int); omega, by rw [gS_ty]; exact hN⟩, gS_put ld, toNat_z]
  show (flet (w32 ((k : Int) + 1)) fun v52 => r ((x + d : Nat) : Int) ((x + o : Nat) : Int) v52 (cS x S (va_up C (d + 3) (va_up (C (d + 3)) k (C (o + 3) k))))) = _
  rw [flet_eq, w32_of (by omega) (by omega), zs]
theorem c_cpS (I : CI x S C) (hd : isT d) (ho : isT o) (hdo : (d = 1 ∧ o = 202) ∨ (d = 202 ∧ o = 1)) (hN : ∀ k, k < 4 → C (o + 3) k < 0 ∨ jty S (C (o + 3) k) = (0, 6)) : ∃ C', f_X10_copyFrom_b203 ((x + d : Nat) : Int) ((x + o : Nat) : Int) 0 (cS x S C) = some (0, cS x S C') ∧ CI x S C' ∧ (∀ i, i ≠ d + 3 → C' i = C i) ∧ ∀ k, k < 4 → C' (d + 3) k = C (o + 3) k := by
  unfold f_X10_copyFrom_b203
  refine lpe (fun (r : Int → Int → Int → fK) i (c : Nat → Nat → Int) => r ((x + d : Nat) : Int) ((x + o : Nat) : Int) (i : Int) (cS x S c)) (fun n c => CI x S c ∧ (∀ i, i ≠ d + 3 → c i = C i) ∧ ∀ k, k < n → c (d + 3) k = C (o + 3) k) (fun r => ∃ C', r = some (0, cS x S C') ∧ CI x S C' ∧ (∀ i, i ≠ d + 3 → C' i = C i) ∧ ∀ k, k < 4 → C' (d + 3) k = C (o + 3) k) (N := 4) ?_ ?_ jN 0 C (by omega) (by unfold jN; omega) ⟨I, fun _ _ => rfl, fun k hk => by omega⟩
  · intro r i c hi hinv ih
    obtain ⟨Ic, h1, h2⟩ := hinv
    have eo : c (o + 3) = C (o + 3) := h1 _ (by omega)
    show ∃ C', f_X10_copyFrom_b203B r _ _ _ _ = _ ∧ _
    rw [c_cpS1 Ic hd ho hi (by rw [eo]; exact hN i hi)]
    refine ih _ ⟨CI_ta Ic hd (Or.inr rfl), fun q hq => by rw [va_up_ne _ _ hq, h1 q hq], fun k hk => ?_⟩
    rw [va_up_self, eo]
    by_cases e : k = i
    · subst e; rw [va_up_self]
    · rw [va_up_ne _ _ e, h2 k (by omega)]
  · intro r c hinv
    obtain ⟨Ic, h1, h2⟩ := hinv
    show ∃ C', f_X10_copyFrom_b203B r _ _ _ _ = _ ∧ _
    unfold f_X10_copyFrom_b203B
    rw [if_pos (by omega)]
    exact ⟨c, rfl, Ic, h1, h2⟩
theorem c_copyT (I : CI x S C) (hdo : (d = 1 ∧ o = 202) ∨ (d = 202 ∧ o = 1)) (hN : ∀ k, k < 4 → C (o + 3) k < 0 ∨ jty S (C (o + 3) k) = (0, 6)) : ∃ C', f_X10_copyFrom ((x + d : Nat) : Int) ((x + o : Nat) : Int) (cS x S C) = some (0, cS x S C') ∧ CI x S C' ∧ (∀ i, (i < d ∨ d + 12 < i) → C' i = C i) ∧ (∀ k, (k = 0 ∨ k = 1 ∨ k = 4 ∨ k = 6 ∨ k = 7 ∨ k = 11) → C' d k = C o k) ∧ (∀ j k, arT j → k < lenT j → C' (d + j) k = C (o + j) k) ∧ ∀ k, k < 4 → C' (d + 3) k = C (o + 3) k := by
  have hd : isT d := by unfold isT; omega
  have ho : isT o := by unfold isT; omega
  have cpy : ∀ (C : Nat → Nat → Int) (j : Nat), CI x S C → arT j → ∃ C1, (∀ f : jSt → Option (Int × jSt), fcopy (cS x S C) ((x + (o + j) : Nat) : Int) 0 ((x + (d + j) : Nat) : Int) 0 ((lenT j : Nat) : Int) f = f (cS x S C1)) ∧ CI x S C1 ∧ (∀ i, i ≠ d + j → C1 i = C i) ∧ ∀ k, k < lenT j → C1 (d + j) k = C (o + j) k := by
    intro C j I hj
    have j12 : j ≤ 12 := by unfold arT at hj; omega
    refine ⟨_, fun f => c_cpy I (ni := lenT j) (nj := lenT j) (by omega) (by omega) (ct_t ho hj) (ct_t hd hj) ⟨by omega, by omega, by omega⟩ (by omega) (by omega), CI_ta I hd (Or.inl hj), fun i hi => va_up_ne _ _ hi, fun k hk => ?_⟩
    rw [va_up_self]
    unfold va_cpy
    rw [if_pos (by omega)]
    show C (o + j) (0 + (k - 0)) = _
    rw [Nat.zero_add, Nat.sub_zero]
  have sc : ∀ (C : Nat → Nat → Int) (k : Nat) (z : Int), CI x S C → (k = 0 ∨ k = 1 ∨ k = 4 ∨ k = 6 ∨ k = 7 ∨ k = 11) → ∃ C1, (∀ f : jSt → Option (Int × jSt), fput (cS x S C) ((x + d : Nat) : Int) 10 k z f = f (cS x S C1)) ∧ CI x S C1 ∧ (∀ i, i ≠ d → C1 i = C i) ∧ (∀ q, q ≠ k → C1 d q = C d q) ∧ C1 d k = z := by
    intro C k z I hk
    refine ⟨_, fun f => cp_t I hd, CI_ts I hd hk, fun i hi => va_up_ne _ _ hi, fun q hq => ?_, ?_⟩
    · rw [va_up_self, va_up_ne _ _ hq]
    · rw [va_up_self, va_up_self]
  obtain ⟨C1, e1, I1, f1, g1, h1⟩ := sc C 0 (C o 0) I (by omega)
  obtain ⟨C2, e2, I2, f2, g2, h2⟩ := sc C1 1 (C1 o 1) I1 (by omega)
  obtain ⟨C3, e3, I3, f3, g3, h3⟩ := sc C2 4 (C2 o 4) I2 (by omega)
  obtain ⟨C4, e4, I4, f4, g4, h4⟩ := sc C3 6 (C3 o 6) I3 (by omega)
  obtain ⟨C5, e5, I5, f5, g5, h5⟩ := sc C4 7 (C4 o 7) I4 (by omega)
  obtain ⟨C6, e6, I6, f6, g6, h6⟩ := sc C5 11 (C5 o 11) I5 (by omega)
  obtain ⟨C7, e7, I7, f7, g7⟩ := cpy C6 1 I6 (by unfold arT; omega)
  rw [show ((lenT 1 : Nat) : Int) = 12 from rfl] at e7
  obtain ⟨C8, e8, I8, f8, g8⟩ := cpy C7 2 I7 (by unfold arT; omega)
  rw [show ((lenT 2 : Nat) : Int) = 12 from rfl] at e8
  obtain ⟨C9, e9, I9, f9, g9⟩ := cpy C8 4 I8 (by unfold arT; omega)
  rw [show ((lenT 4 : Nat) : Int) = 8 from rfl] at e9
  obtain ⟨C10, e10, I10, f10, g10⟩ := cpy C9 5 I9 (by unfold arT; omega)
  rw [show ((lenT 5 : Nat) : Int) = 8 from rfl] at e10
  obtain ⟨C11, e11, I11, f11, g11⟩ := cpy C10 6 I10 (by unfold arT; omega)
  rw [show ((lenT 6 : Nat) : Int) = 8 from rfl] at e11
  obtain ⟨C12, e12, I12, f12, g12⟩ := cpy C11 7 I11 (by unfold arT; omega)
  rw [show ((lenT 7 : Nat) : Int) = 8 from rfl] at e12
  obtain ⟨C13, e13, I13, f13, g13⟩ := cpy C12 8 I12 (by unfold arT; omega)
  rw [show ((lenT 8 : Nat) : Int) = 8 from rfl] at e13
  obtain ⟨C14, e14, I14, f14, g14⟩ := cpy C13 10 I13 (by unfold arT; omega)
  rw [show ((lenT 10 : Nat) : Int) = 6 from rfl] at e14
  obtain ⟨C15, e15, I15, f15, g15⟩ := cpy C14 12 I14 (by unfold arT; omega)
  rw [show ((lenT 12 : Nat) : Int) = 6 from rfl] at e15
  have no : ∀ i, i ≤ 12 → ∀ j, j ≤ 12 → o + i ≠ d + j := fun i hi j hj => by omega
  have n0 : ∀ j, j ≤ 12 → o ≠ d + j := fun j hj => by omega
  have nd : o ≠ d := by omega
  have F15 : ∀ i, (i < d ∨ d + 12 < i) → C15 i = C i := fun i hi => by
    rw [f15 i (by omega), f14 i (by omega), f13 i (by omega), f12 i (by omega), f11 i (by omega), f10 i (by omega), f9 i (by omega), f8 i (by omega), f7 i (by omega), f6 i (by omega), f5 i (by omega), f4 i (by omega), f3 i (by omega), f2 i (by omega), f1 i (by omega)]
  obtain ⟨C16, e16, I16, f16, g16⟩ := c_cpS I15 hd ho hdo (by rw [F15 (o + 3) (by omega)]; exact hN)
  refine ⟨C16, ?_, I16, fun i hi => by rw [f16 i (by omega), F15 i hi], fun k hk => ?_, fun j k hj hk => ?_, fun k hk => by rw [g16 k hk, F15 (o + 3) (by omega)]⟩
  · unfold f_X10_copyFrom
    rw [cg_t I ho, e1, cg_t I1 ho, e2, cg_t I2 ho, e3, cg_t I3 ho, e4, cg_t I4 ho, e5, cg_t I5 ho, e6, crt_2 I6 ho, crt_2 I6 hd, crt_2 I6 hd, lnt I6 hd (by unfold arT; omega) (by omega), e7, crt_3 I7 ho, crt_3 I7 hd, crt_3 I7 hd, lnt I7 hd (by unfold arT; omega) (by omega), e8, crt_8 I8 ho, crt_8 I8 hd, e9, crt_9 I9 ho, crt_9 I9 hd, e10, crt_10 I10 ho, crt_10 I10 hd, e11, crt_12 I11 ho, crt_12 I11 hd, e12, crt_13 I12 ho, crt_13 I12 hd, e13, crt_14 I13 ho, crt_9a I13 ho, crt_14 I13 hd, crt_9a I13 hd, e14, crt_15 I14 ho, crt_11a I14 ho, crt_15 I14 hd, crt_11a I14 hd, e15, e16]
  · rw [f16 d (by omega), f15 d (by omega), f14 d (by omega), f13 d (by omega), f12 d (by omega), f11 d (by omega), f10 d (by omega), f9 d (by omega), f8 d (by omega), f7 d (by omega)]
    rcases hk with rfl | rfl | rfl | rfl | rfl | rfl
    · rw [g6 0 (by omega), g5 0 (by omega), g4 0 (by omega), g3 0 (by omega), g2 0 (by omega), h1]
    · rw [g6 1 (by omega), g5 1 (by omega), g4 1 (by omega), g3 1 (by omega), h2, f1 o nd]
    · rw [g6 4 (by omega), g5 4 (by omega), g4 4 (by omega), h3, f2 o nd, f1 o nd]
    · rw [g6 6 (by omega), g5 6 (by omega), h4, f3 o nd, f2 o nd, f1 o nd]
    · rw [g6 7 (by omega), h5, f4 o nd, f3 o nd, f2 o nd, f1 o nd]
    · rw [h6, f5 o nd, f4 o nd, f3 o nd, f2 o nd, f1 o nd]
  · rw [f16 _ (by unfold arT at hj; omega)]
    rcases hj with rfl | rfl | rfl | rfl | rfl | rfl | rfl | rfl | rfl
    · rw [f15 _ (by omega), f14 _ (by omega), f13 _ (by omega), f12 _ (by omega), f11 _ (by omega), f10 _ (by omega), f9 _ (by omega), f8 _ (by omega), g7 k hk, f6 _ (by omega), f5 _ (by omega), f4 _ (by omega), f3 _ (by omega), f2 _ (by omega), f1 _ (by omega)]
    · rw [f15 _ (by omega), f14 _ (by omega), f13 _ (by omega), f12 _ (by omega), f11 _ (by omega), f10 _ (by omega), f9 _ (by omega), g8 k hk, f7 _ (by omega), f6 _ (by omega), f5 _ (by omega), f4 _ (by omega), f3 _ (by omega), f2 _ (by omega), f1 _ (by omega)]
    · rw [f15 _ (by omega), f14 _ (by omega), f13 _ (by omega), f12 _ (by omega), f11 _ (by omega), f10 _ (by omega), g9 k hk, f8 _ (by omega), f7 _ (by omega), f6 _ (by omega), f5 _ (by omega), f4 _ (by omega), f3 _ (by omega), f2 _ (by omega), f1 _ (by omega)]
    · rw [f15 _ (by omega), f14 _ (by omega), f13 _ (by omega), f12 _ (by omega), f11 _ (by omega), g10 k hk, f9 _ (by omega), f8 _ (by omega), f7 _ (by omega), f6 _ (by omega), f5 _ (by omega), f4 _ (by omega), f3 _ (by omega), f2 _ (by omega), f1 _ (by omega)]
    · rw [f15 _ (by omega), f14 _ (by omega), f13 _ (by omega), f12 _ (by omega), g11 k hk, f10 _ (by omega), f9 _ (by omega), f8 _ (by omega), f7 _ (by omega), f6 _ (by omega), f5 _ (by omega), f4 _ (by omega), f3 _ (by omega), f2 _ (by omega), f1 _ (by omega)]
    · rw [f15 _ (by omega), f14 _ (by omega), f13 _ (by omega), g12 k hk, f11 _ (by omega), f10 _ (by omega), f9 _ (by omega), f8 _ (by omega), f7 _ (by omega), f6 _ (by omega), f5 _ (by omega), f4 _ (by omega), f3 _ (by omega), f2 _ (by omega), f1 _ (by omega)]
    · rw [f15 _ (by omega), f14 _ (by omega), g13 k hk, f12 _ (by omega), f11 _ (by omega), f10 _ (by omega), f9 _ (by omega), f8 _ (by omega), f7 _ (by omega), f6 _ (by omega), f5 _ (by omega), f4 _ (by omega), f3 _ (by omega), f2 _ (by omega), f1 _ (by omega)]
    · rw [f15 _ (by omega), g14 k hk, f13 _ (by omega), f12 _ (by omega), f11 _ (by omega), f10 _ (by omega), f9 _ (by omega), f8 _ (by omega), f7 _ (by omega), f6 _ (by omega), f5 _ (by omega), f4 _ (by omega), f3 _ (by omega), f2 _ (by omega), f1 _ (by omega)]
    · rw [g15 k hk, f14 _ (by omega), f13 _ (by omega), f12 _ (by omega), f11 _ (by omega), f10 _ (by omega), f9 _ (by omega), f8 _ (by omega), f7 _ (by omega), f6 _ (by omega), f5 _ (by omega), f4 _ (by omega), f3 _ (by omega), f2 _ (by omega), f1 _ (by omega)]
end CT
