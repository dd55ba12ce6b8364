-- the class' deeds
def FD (C C' : Nat → Nat → Int) : Prop := ∀ i, (i < 14 ∨ (201 < i ∧ i ≠ 413 ∧ i ≠ 415 ∧ i ≠ 416)) → C' i = C i
theorem FD_KF {C C' : Nat → Nat → Int} (h : FD C C') : KF C C' := ⟨h 4 (by omega), fun i h1 h2 => h i (by omega)⟩
theorem FD_t {C C1 C2 : Nat → Nat → Int} (h1 : FD C C1) (h2 : FD C1 C2) : FD C C2 := fun i hi => (h2 i hi).trans (h1 i hi)
def canSellP (a : Nat → Int) (l : Int) : Prop := (0 ≤ l ∧ l < a 0) ∧ a (12 + 5 * l.toNat) = 0 ∧ 0 < a 1
noncomputable def sellN (a : Nat → Int) (V : LwV) (l : Int) : Int := if bb (canSellP a l) = 0 then -2 else if winv (keepA a) V l.toNat = -1 then -1 else pricev (keepA a) V l.toNat
noncomputable def sellA (a : Nat → Int) (V : LwV) (l : Int) : Nat → Int := if bb (canSellP a l) = 0 then a else selA true (keepA a) V l.toNat
noncomputable def carrA (a : Nat → Int) (l : Int) : Nat → Int := if bb (canCarryP a l) = 0 then a else va_up (keepA a) (11 + 5 * l.toNat) (a (11 + 5 * l.toNat) + 1)
noncomputable def burnA (a : Nat → Int) (l : Int) : Nat → Int := if bb (canBurnP a l) = 0 then a else va_up (keepA a) (12 + 5 * l.toNat) 2
noncomputable def buyD (a : Nat → Int) (l p : Int) : Nat → Int := if bb (canBuyP a l p) = 0 then a else buyA (keepA a) l.toNat p
def wkA (V : LwV) (a : Nat → Int) : Nat → Nat → Int
  | 0 => a
  | n + 1 => pasA true V (keepA (wkA V a n))
def wkN (V : LwV) (a : Nat → Int) : Nat → Int
  | 0 => 0
  | n + 1 => wkN V a n + pasN true V (keepA (wkA V a n))
noncomputable def yrS (wr : Bool) (V : LwV) (a : Nat → Int) : Nat → Nat → Int
  | 0 => a
  | n + 1 => yearA wr V (yrS wr V a n)
noncomputable def yrA (V : LwV) (a : Nat → Int) (sd : Int) (n : Nat) : Nat → Int := yrS true V (va_up (keepA a) 9 (sd * 2 + 211)) n
theorem bb_b01 {c : Prop} [Decidable c] : b01 c = bb c := by
  by_cases h : c
  · rw [bb_t h]; unfold b01; rw [if_pos h]
  · rw [bb_f h]; unfold b01; rw [if_neg h]
theorem of_bb {c : Prop} (h : ¬ bb c = 0) : c := Classical.byContradiction (fun z => h (bb_0.mpr z))
theorem pasS_n (wr : Bool) (V : LwV) (f : Int) (a : Nat → Int) : ∀ n : Nat, 0 ≤ (pasS wr V f a n).2 ∧ (pasS wr V f a n).2 ≤ n
  | 0 => ⟨by show (0 : Int) ≤ 0; omega, by show (0 : Int) ≤ _; omega⟩
  | n + 1 => by
    have ih := pasS_n wr V f a n
    unfold pasS
    split
    · dsimp only
      split <;> omega
    · omega
theorem pasA_lo (wr : Bool) (V : LwV) (a : Nat → Int) {k : Nat} (h : k < 7) : pasA wr V a k = a k := by
  unfold pasA
  rw [va_up_ne _ _ (by omega), pasS_lo wr V _ a (by omega)]
theorem pasA_7 (wr : Bool) (V : LwV) (a : Nat → Int) : pasA wr V a 7 = a 7 + 1 := by
  unfold pasA
  rw [va_up_self]
section DC
variable {x : Nat} {S : jSt} {C : Nat → Nat → Int} {a : Nat → Int} {V : LwV}
theorem Rel_kd {C1 C' : Nat → Nat → Int} {a' : Nat → Int} (h4 : 0 ≤ a 4 ∧ a 4 ≤ 30) (R1 : Rel (keepA a) C1 1 14 20) (D : Dd (keepA a) a') (X : HX a' C' 14) (hC : ∀ i, 1 ≤ i → i ≤ 201 → (i < 14 ∨ 19 < i) → C' i = C1 i) : Rel a' C' 1 14 20 := by
  obtain ⟨r0, r1⟩ := keepA_r h4
  refine Rel_deed R1 D ?_ ?_ ?_ X hC
  · rw [keepA_4 h4]; split <;> omega
  · rw [r0, keepA_lo (by omega) (by omega) h4]
  · rw [r1, keepA_lo (by omega) (by omega) h4]
theorem LvC_e {C1 : Nat → Nat → Int} {a1 : Nat → Int} (L : LvC x S (C 4) (a 2) V) (h : C1 4 = C 4) (h2 : a1 2 = a 2) : LvC x S (C1 4) (a1 2) V := by
  rw [h, h2]; exact L
theorem c_sell (I : CI x S C) (R : Rel a C 1 14 20) (L : LvC x S (C 4) (a 2) V) (l : Int) : ∃ C', f_X11_sell (x : Int) l (cS x S C) = some (sellN a V l, cS x S C') ∧ CI x S C' ∧ Rel (sellA a V l) C' 1 14 20 ∧ KF C C' := by
  have hX := Rel_h R
  have W := hX.2.2
  obtain ⟨w0, w1, w2, w3, w4, w7, w8, w9, w10⟩ := W.1
  unfold f_X11_sell sellN sellA
  rw [cr0_8 I, cr0_1 I, cv_413 I, c_canSell I R.1 W.1 hX.1 isH_14, fcall_some, bb_b01]
  show ∃ C', (if bb (canSellP a l) = 0 then _ else _) = _ ∧ _
  by_cases h : bb (canSellP a l) = 0
  · rw [if_pos h, if_pos h, if_pos h]
    exact ⟨C, rfl, I, R, KF_r C⟩
  · rw [if_neg h, if_neg h, if_neg h]
    obtain ⟨c1, c2, c3⟩ := of_bb h
    obtain ⟨n, rfl⟩ : ∃ n : Nat, l = (n : Int) := ⟨l.toNat, by omega⟩
    rw [toNat_z] at c2 ⊢
    obtain ⟨C1, v1, I1, R1, f1⟩ := c_keep I R
    have k0 : ∀ k, (k < 193 ∧ k ≠ 4) → keepA a k = a k := fun k hk => keepA_lo (by omega) hk.2 w4
    have k1 := Rel_HR I1 R1 (LvC_e L (f1 4 (by omega)) (k0 2 (by omega)))
    have hn : (n : Int) < keepA a 0 := by rw [k0 0 (by omega)]; exact c1.2
    obtain ⟨C2, v2, k2, g2, f2⟩ := c_findWinner isH_14 k1 (l := n) hn
    obtain ⟨C3, v3, k3, f3⟩ := c_handOver isH_14 k2 (l := n) hn g2
    have ew : wnv (keepA a) V n = winv (keepA a) V n := by
      unfold wnv
      rw [k0 _ (by omega), if_pos c2]
    rw [cr0_2 I, cr0_1 I, cv_20 I, v1, fcall_some, cr0_8 I1, cr0_1 I1, cv_413 I1, v2, fcall_some, cr0_8 k2.1, cr0_1 k2.1, cv_413 k2.1, v3, fcall_some, cr0_8 k3.1, cg_413 k3.1, f3 413 (by omega), g2.2, ew]
    rw [ew] at k3
    have k3' : HR true x S V (selA true (keepA a) V n) C3 14 := k3
    refine ⟨C3, rfl, k3.1, Rel_kd w4 R1 (Dd_sel k1.2.2.2.1 true V hn) (HR_HX k3') (fun i h1 h2 h3 => by rw [f3 i (by omega), f2 i (by omega) (by omega) (by omega)]), FD_KF (fun i hi => ?_)⟩
    rw [f3 i (by omega), f2 i (by omega) (by omega) (by omega), f1 i (by omega)]
theorem c_carry (I : CI x S C) (R : Rel a C 1 14 20) (L : LvC x S (C 4) (a 2) V) (l : Int) : ∃ C', f_X11_carry (x : Int) l (cS x S C) = some (bb (canCarryP a l), cS x S C') ∧ CI x S C' ∧ Rel (carrA a l) C' 1 14 20 ∧ KF C C' := by
  have hX := Rel_h R
  have W := hX.2.2
  obtain ⟨w0, w1, w2, w3, w4, w7, w8, w9, w10⟩ := W.1
  unfold f_X11_carry carrA
  rw [cr0_8 I, cr0_1 I, cv_413 I, c_canCarry I R.1 W.1 hX.1 isH_14, fcall_some]
  by_cases h : bb (canCarryP a l) = 0
  · rw [if_pos h, if_pos h, h]
    exact ⟨C, rfl, I, R, KF_r C⟩
  · rw [if_neg h, if_neg h]
    have hc := of_bb h
    rw [bb_t hc]
    obtain ⟨c1, c2, c3, c4⟩ := hc
    obtain ⟨n, rfl⟩ : ∃ n : Nat, l = (n : Int) := ⟨l.toNat, by omega⟩
    rw [toNat_z] at c2 c3 c4 ⊢
    obtain ⟨C1, v1, I1, R1, f1⟩ := c_keep I R
    have k0 : ∀ k, (k < 193 ∧ k ≠ 4) → keepA a k = a k := fun k hk => keepA_lo (by omega) hk.2 w4
    have k1 := Rel_HR I1 R1 (LvC_e L (f1 4 (by omega)) (k0 2 (by omega)))
    have hn : (n : Int) < keepA a 0 := by rw [k0 0 (by omega)]; exact c1.2
    have wl := W.2.1 n c1.2
    have e2 := ((Rel_h R1).1.2.1 n hn).2
    rw [k0 _ (by omega)] at e2
    have k2 := HR_floor isH_14 k1 (l := n) hn (z := a (11 + 5 * n) + 1) (by omega)
    rw [cr0_2 I, cr0_1 I, cv_20 I, v1, fcall_some, cr0_1 I1, crh_1 I1 isH_14, alh_2 I1 isH_14 (by omega) (by omega), toNat_z, e2, w32_of (by omega) (by omega), sth_2 I1 isH_14 (by omega) (by omega), toNat_z]
    refine ⟨_, rfl, k2.1, Rel_kd w4 R1 (Dd_up (Dd_r _) (Or.inr (Or.inl ⟨n, hn, by omega⟩))) (HR_HX k2) (fun i h1 h2 h3 => va_up_ne _ _ (by omega)), FD_KF (fun i hi => ?_)⟩
    rw [va_up_ne _ _ (by omega), f1 i (by omega)]
theorem c_burn (I : CI x S C) (R : Rel a C 1 14 20) (L : LvC x S (C 4) (a 2) V) (l : Int) : ∃ C', f_X11_burn (x : Int) l (cS x S C) = some (bb (canBurnP a l), cS x S C') ∧ CI x S C' ∧ Rel (burnA a l) C' 1 14 20 ∧ KF C C' := by
  have hX := Rel_h R
  have W := hX.2.2
  obtain ⟨w0, w1, w2, w3, w4, w7, w8, w9, w10⟩ := W.1
  unfold f_X11_burn burnA
  rw [cr0_8 I, cr0_1 I, cv_413 I, c_canBurn I R.1 W.1 hX.1 isH_14, fcall_some]
  by_cases h : bb (canBurnP a l) = 0
  · rw [if_pos h, if_pos h, h]
    exact ⟨C, rfl, I, R, KF_r C⟩
  · rw [if_neg h, if_neg h]
    have hc := of_bb h
    rw [bb_t hc]
    obtain ⟨c1, c2⟩ := hc
    obtain ⟨n, rfl⟩ : ∃ n : Nat, l = (n : Int) := ⟨l.toNat, by omega⟩
    rw [toNat_z] at c2 ⊢
    obtain ⟨C1, v1, I1, R1, f1⟩ := c_keep I R
    have k0 : ∀ k, (k < 193 ∧ k ≠ 4) → keepA a k = a k := fun k hk => keepA_lo (by omega) hk.2 w4
    have k1 := Rel_HR I1 R1 (LvC_e L (f1 4 (by omega)) (k0 2 (by omega)))
    have hn : (n : Int) < keepA a 0 := by rw [k0 0 (by omega)]; exact c1.2
    have k2 := HR_where isH_14 k1 (l := n) hn (z := 2) (by rw [k0 1 (by omega)]; omega)
    rw [cr0_2 I, cr0_1 I, cv_20 I, v1, fcall_some, cr0_1 I1, crh_0 I1 isH_14, sth_1 I1 isH_14 (by omega) (by omega), toNat_z]
    refine ⟨_, rfl, k2.1, Rel_kd w4 R1 (Dd_up (Dd_r _) (Or.inr (Or.inl ⟨n, hn, by omega⟩))) (HR_HX k2) (fun i h1 h2 h3 => va_up_ne _ _ (by omega)), FD_KF (fun i hi => ?_)⟩
    rw [va_up_ne _ _ (by omega), f1 i (by omega)]
theorem canBuy_k (h4 : 0 ≤ a 4 ∧ a 4 ≤ 30) (W : Wf a) {l p : Int} (h : canBuyP a l p) : canBuyP (keepA a) l p := by
  have k0 : ∀ k, (k < 193 ∧ k ≠ 4) → keepA a k = a k := fun k hk => keepA_lo (by omega) hk.2 h4
  obtain ⟨c1, c2, c3, c4, c5⟩ := h
  obtain ⟨w0, w1, _⟩ := W.1
  have wl := W.2.1 l.toNat (by omega)
  unfold canBuyP
  rw [k0 0 (by omega), k0 (12 + 5 * l.toNat) (by omega), k0 8 (by omega), k0 _ (by omega)]
  exact ⟨c1, c2, c3, c4, c5⟩
theorem c_buy (I : CI x S C) (R : Rel a C 1 14 20) (L : LvC x S (C 4) (a 2) V) (l p : Int) : ∃ C', f_X11_buy (x : Int) l p (cS x S C) = some (bb (canBuyP a l p), cS x S C') ∧ CI x S C' ∧ Rel (buyD a l p) C' 1 14 20 ∧ KF C C' := by
  have hX := Rel_h R
  have W := hX.2.2
  obtain ⟨w0, w1, w2, w3, w4, w7, w8, w9, w10⟩ := W.1
  unfold f_X11_buy buyD
  rw [cr0_8 I, cr0_1 I, cv_413 I, c_canBuyBack I R.1 W hX.1 isH_14, fcall_some]
  by_cases h : bb (canBuyP a l p) = 0
  · rw [if_pos h, if_pos h, h]
    exact ⟨C, rfl, I, R, KF_r C⟩
  · rw [if_neg h, if_neg h]
    have hc := of_bb h
    rw [bb_t hc]
    have hk := canBuy_k w4 W hc
    obtain ⟨c1, _⟩ := hc
    obtain ⟨n, rfl⟩ : ∃ n : Nat, l = (n : Int) := ⟨l.toNat, by omega⟩
    rw [toNat_z]
    obtain ⟨C1, v1, I1, R1, f1⟩ := c_keep I R
    have k0 : ∀ k, (k < 193 ∧ k ≠ 4) → keepA a k = a k := fun k hk => keepA_lo (by omega) hk.2 w4
    have k1 := Rel_HR I1 R1 (LvC_e L (f1 4 (by omega)) (k0 2 (by omega)))
    obtain ⟨C2, v2, k2, f2⟩ := c_buyBack isH_14 k1 hk
    rw [cr0_2 I, cr0_1 I, cv_20 I, v1, fcall_some, cr0_8 I1, cr0_1 I1, cv_413 I1, v2, fcall_some]
    refine ⟨_, rfl, k2.1, Rel_kd w4 R1 (Dd_buy k1.2.2.2.1 hk) (HR_HX k2) (fun i h1 h2 h3 => f2 i (by omega)), FD_KF (fun i hi => ?_)⟩
    rw [f2 i (by omega), f1 i (by omega)]
theorem c_passWeeks (I : CI x S C) (R : Rel a C 1 14 20) (L : LvC x S (C 4) (a 2) V) {n : Nat} (h7 : a 7 + n ≤ 9999) (hn : n ≤ 60) : ∃ C', f_X11_passWeeks (x : Int) (n : Int) (cS x S C) = some (wkN V a n, cS x S C') ∧ CI x S C' ∧ Rel (wkA V a n) C' 1 14 20 ∧ KF C C' := by
  unfold f_X11_passWeeks
  refine lpe (fun (r : Int → Int → Int → Int → fK) i (c : Nat → Nat → Int) => r (x : Int) (n : Int) (wkN V a i) (i : Int) (cS x S c)) (fun i c => (CI x S c ∧ Rel (wkA V a i) c 1 14 20 ∧ FD C c) ∧ (wkA V a i 7 = a 7 + i ∧ wkA V a i 2 = a 2) ∧ 0 ≤ wkN V a i ∧ wkN V a i ≤ 12 * i) (fun o => ∃ C', o = some (wkN V a n, cS x S C') ∧ CI x S C' ∧ Rel (wkA V a n) C' 1 14 20 ∧ KF C C') (N := n) ?_ ?_ jN 0 C (by omega) (by unfold jN; omega) ⟨⟨I, R, fun _ _ => rfl⟩, ⟨by show a 7 = a 7 + 0; omega, rfl⟩, by show (0 : Int) ≤ 0; omega, by show (0 : Int) ≤ 12 * 0; omega⟩
  · intro r i c hi ⟨⟨J, Q, f⟩, ⟨e7, e2⟩, n0, n1⟩ ih
    show ∃ C', f_X11_passWeeks_b4B r _ _ _ _ _ = _ ∧ _
    unfold f_X11_passWeeks_b4B
    obtain ⟨w0, w1, w2, w3, w4, w7, w8, w9, w10⟩ := (Rel_h Q).2.2.1
    obtain ⟨C1, v1, I1, R1, f1⟩ := c_keep J Q
    have k0 : ∀ k, (k < 193 ∧ k ≠ 4) → keepA (wkA V a i) k = wkA V a i k := fun k hk => keepA_lo (by omega) hk.2 w4
    have k1 := Rel_HR I1 R1 (LvC_e L ((f1 4 (by omega)).trans (f 4 (by omega))) ((k0 2 (by omega)).trans e2))
    obtain ⟨C2, v2, k2, f2⟩ := c_passWeek isH_14 k1 (by rw [k0 7 (by omega), e7]; omega)
    have pn := pasS_n true V (sfl (keepA (wkA V a i))) (keepA (wkA V a i)) (keepA (wkA V a i) 0).toNat
    have pn' : 0 ≤ pasN true V (keepA (wkA V a i)) ∧ pasN true V (keepA (wkA V a i)) ≤ 12 := by
      rw [k0 0 (by omega)] at pn
      unfold pasN
      rw [k0 0 (by omega)]
      omega
    rw [if_neg (by omega), cr0_2 J, cr0_1 J, cv_20 J, v1, fcall_some, cr0_8 I1, cr0_1 I1, cv_413 I1, v2, fcall_some]
    simp only [flet_eq]
    rw [w32_of (by omega) (by omega), w32_of (by omega) (by omega), zs]
    refine ih C2 ⟨⟨k2.1, Rel_kd w4 R1 (Dd_pas k1.2.2.2.1 true V) (HR_HX k2) (fun j h1 h2 h3 => f2 j (by omega) (by omega) (by omega) (by omega)), fun j hj => ?_⟩, ⟨?_, ?_⟩, ?_, ?_⟩
    · rw [f2 j (by omega) (by omega) (by omega) (by omega), f1 j (by omega), f j hj]
    · show pasA true V (keepA (wkA V a i)) 7 = _
      rw [pasA_7, k0 7 (by omega), e7]; omega
    · show pasA true V (keepA (wkA V a i)) 2 = _
      rw [pasA_lo _ _ _ (by omega), k0 2 (by omega), e2]
    · show 0 ≤ wkN V a i + pasN true V (keepA (wkA V a i)); omega
    · show wkN V a i + pasN true V (keepA (wkA V a i)) ≤ _; omega
  · intro r c ⟨⟨J, Q, f⟩, _, _⟩
    show ∃ C', f_X11_passWeeks_b4B r _ _ _ _ _ = _ ∧ _
    unfold f_X11_passWeeks_b4B
    rw [if_pos (by omega)]
    exact ⟨c, rfl, J, Q, FD_KF f⟩
def weekN (V : LwV) (a : Nat → Int) (n : Int) : Int := if (1 ≤ n ∧ n ≤ 60) ∧ a 7 + n ≤ 9999 then wkN V a n.toNat else -1
def weekA (V : LwV) (a : Nat → Int) (n : Int) : Nat → Int := if (1 ≤ n ∧ n ≤ 60) ∧ a 7 + n ≤ 9999 then wkA V a n.toNat else a
theorem c_week (I : CI x S C) (R : Rel a C 1 14 20) (L : LvC x S (C 4) (a 2) V) (n : Int) : ∃ C', f_X11_week (x : Int) n (cS x S C) = some (weekN V a n, cS x S C') ∧ CI x S C' ∧ Rel (weekA V a n) C' 1 14 20 ∧ KF C C' := by
  have hX := Rel_h R
  obtain ⟨w0, w1, w2, w3, w4, w7, w8, w9, w10⟩ := hX.2.2.1
  unfold f_X11_week f_X11_week_b25 weekN weekA
  rw [s_within, fcall_some, if_b01]
  by_cases h1 : 1 ≤ n ∧ n ≤ 60
  · rw [if_pos h1, cr0_1 I, cg_h I isH_14, hX.1.1.1, w32_of (by omega) (by omega)]
    by_cases h2 : a 7 + n ≤ 9999
    · obtain ⟨k, rfl⟩ : ∃ k : Nat, n = (k : Int) := ⟨n.toNat, by omega⟩
      obtain ⟨C', v, q1, q2, q3⟩ := c_passWeeks I R L (n := k) h2 (by omega)
      rw [if_pos h2, if_pos ⟨h1, h2⟩, if_pos ⟨h1, h2⟩, cv_0 I, v, fcall_some, toNat_z]
      exact ⟨C', rfl, q1, q2, q3⟩
    · rw [if_neg h2, if_neg (fun q => h2 q.2), if_neg (fun q => h2 q.2)]
      exact ⟨C, rfl, I, R, KF_r C⟩
  · rw [if_neg h1, if_neg (fun q => h1 q.1), if_neg (fun q => h1 q.1)]
    exact ⟨C, rfl, I, R, KF_r C⟩
theorem yrS_lo (wr : Bool) (V : LwV) {k : Nat} (hk : k < 7) : ∀ (n : Nat) {a : Nat → Int}, Wf a → Wf (yrS wr V a n) ∧ yrS wr V a n k = a k ∧ Dd a (yrS wr V a n)
  | 0, a, W => ⟨W, rfl, Dd_r a⟩
  | n + 1, a, W => by
    obtain ⟨i1, i2, i3⟩ := yrS_lo wr V hk n W
    have d := Dd_year i1 wr V
    have e0 : yrS wr V a n 0 = a 0 := Dd_lo i3 W.1.1.2 W.1.2.1.2 (by omega)
    have e1 : yrS wr V a n 1 = a 1 := Dd_lo i3 W.1.1.2 W.1.2.1.2 (by omega)
    refine ⟨Wf_year wr V i1, ?_, Dd_t W.1.1.2 W.1.2.1.2 i3 d⟩
    show yearA wr V (yrS wr V a n) k = _
    rw [Dd_lo d (by rw [e0]; exact W.1.1.2) (by rw [e1]; exact W.1.2.1.2) (by omega), i2]
noncomputable def yearsN (V : LwV) (a : Nat → Int) (sd n : Int) : Int := if (0 ≤ sd ∧ sd ≤ 9999) ∧ (1 ≤ n ∧ n ≤ 40) then yrA V a sd n.toNat 7 else -1
noncomputable def yearsA (V : LwV) (a : Nat → Int) (sd n : Int) : Nat → Int := if (0 ≤ sd ∧ sd ≤ 9999) ∧ (1 ≤ n ∧ n ≤ 40) then yrA V a sd n.toNat else a
theorem c_years (I : CI x S C) (R : Rel a C 1 14 20) (L : LvC x S (C 4) (a 2) V) (sd n : Int) : ∃ C', f_X11_years (x : Int) sd n (cS x S C) = some (yearsN V a sd n, cS x S C') ∧ CI x S C' ∧ Rel (yearsA V a sd n) C' 1 14 20 ∧ KF C C' := by
  have hX := Rel_h R
  obtain ⟨w0, w1, w2, w3, w4, w7, w8, w9, w10⟩ := hX.2.2.1
  unfold f_X11_years f_X11_years_b21 yearsN yearsA
  rw [s_within, fcall_some, if_b01]
  by_cases h1 : 0 ≤ sd ∧ sd ≤ 9999
  · rw [if_pos h1, s_within, fcall_some, if_b01]
    by_cases h2 : 1 ≤ n ∧ n ≤ 40
    · rw [if_pos h2, if_pos ⟨h1, h2⟩, if_pos ⟨h1, h2⟩]
      obtain ⟨k, rfl⟩ : ∃ k : Nat, n = (k : Int) := ⟨n.toNat, by omega⟩
      rw [toNat_z]
      obtain ⟨C1, v1, I1, R1, f1⟩ := c_keep I R
      have k0 : ∀ k, (k < 193 ∧ k ≠ 4) → keepA a k = a k := fun k hk => keepA_lo (by omega) hk.2 w4
      have k1 := Rel_HR I1 R1 (LvC_e L (f1 4 (by omega)) (k0 2 (by omega)))
      have k2 := HR_x isH_14 k1 (z := sd * 2 + 211) (by omega)
      have d2 : Dd (keepA a) (va_up (keepA a) 9 (sd * 2 + 211)) := Dd_up (Dd_r _) (Or.inl (by omega))
      rw [cr0_2 I, cr0_1 I, cv_20 I, v1, fcall_some, cr0_1 I1, w32_of (z := sd * 2) (by omega) (by omega), w32_of (by omega) (by omega), cp_h I1 isH_14]
      generalize hb : va_up (keepA a) 9 (sd * 2 + 211) = b at *
      generalize hC2 : va_up C1 14 (va_up (C1 14) 8 (sd * 2 + 211)) = C2 at *
      have f2 : ∀ i, i ≠ 14 → C2 i = C1 i := fun i hi => by rw [← hC2, va_up_ne _ _ hi]
      have eA : yrA V a sd k = yrS true V b k := by unfold yrA; rw [hb]
      rw [eA]
      refine lpe (fun (r : Int → Int → Int → fK) i (c : Nat → Nat → Int) => r (x : Int) (k : Int) (i : Int) (cS x S c)) (fun i c => HR true x S V (yrS true V b i) c 14 ∧ ∀ j, (j < 14 ∨ 19 < j) → j ≠ 413 → j ≠ 415 → j ≠ 416 → c j = C1 j) (fun o => ∃ C', o = some (yrS true V b k 7, cS x S C') ∧ CI x S C' ∧ Rel (yrS true V b k) C' 1 14 20 ∧ KF C C') (N := k) ?_ ?_ jN 0 C2 (by omega) (by unfold jN; omega) ⟨k2, fun j h1 h2 h3 h4 => f2 j (by omega)⟩
      · intro r i c hi ⟨J, f⟩ ih
        show ∃ C', f_X11_years_b50B r _ _ _ _ = _ ∧ _
        unfold f_X11_years_b50B
        obtain ⟨c2, v2, k3, f3⟩ := c_drawYear isH_14 J
        rw [if_neg (by omega), cr0_8 J.1, cr0_1 J.1, cv_413 J.1, v2, fcall_some]
        simp only [flet_eq]
        rw [w32_of (by omega) (by omega), zs]
        exact ih c2 ⟨k3, fun j h1 h2 h3 h4 => (f3 j (by omega) h2 h3 h4).trans (f j h1 h2 h3 h4)⟩
      · intro r c ⟨J, f⟩
        show ∃ C', f_X11_years_b50B r _ _ _ _ = _ ∧ _
        unfold f_X11_years_b50B
        rw [if_pos (by omega), cr0_1 J.1, cg_h J.1 isH_14, J.2.2.1.1.1]
        refine ⟨c, rfl, J.1, Rel_kd w4 R1 (Dd_t (by rw [k0 0 (by omega)]; exact w0.2) (by rw [k0 1 (by omega)]; exact w1.2) d2 (yrS_lo true V (k := 0) (by omega) k k2.2.2.2.1).2.2) (HR_HX J) (fun i h1 h2 h3 => f i (by omega) (by omega) (by omega) (by omega)), FD_KF (fun i hi => ?_)⟩
        rw [f i (by omega) (by omega) (by omega) (by omega), f1 i (by omega)]
    · rw [if_neg h2, if_neg (fun q => h2 q.2), if_neg (fun q => h2 q.2)]
      exact ⟨C, rfl, I, R, KF_r C⟩
  · rw [if_neg h1, if_neg (fun q => h1 q.1), if_neg (fun q => h1 q.1)]
    exact ⟨C, rfl, I, R, KF_r C⟩
def undN (a : Nat → Int) : Int := if a 4 = 0 then -1 else a 4 - 1
def undA (a : Nat → Int) : Nat → Int := if a 4 = 0 then a else undoA a
theorem c_undo (I : CI x S C) (R : Rel a C 1 14 20) : ∃ C', f_X11_undo (x : Int) (cS x S C) = some (undN a, cS x S C') ∧ CI x S C' ∧ Rel (undA a) C' 1 14 20 ∧ KF C C' := by
  obtain ⟨C1, v1, I1, RS1, f1⟩ := c_pop I R.2.2.2.1
  have hX := Rel_h R
  obtain ⟨w0, w1, w2, w3, w4, w7, w8, w9, w10⟩ := hX.2.2.1
  unfold f_X11_undo f_X11_undo_b25 undN undA
  rw [cr0_2 I, cr0_1 I, cv_20 I, v1, fcall_some]
  obtain ⟨T, TX, WX, RS, RO⟩ := R
  by_cases h : a 4 = 0
  · rw [if_pos h] at RS1
    rw [if_pos h, if_pos rfl, if_pos h, if_pos h]
    exact ⟨C1, rfl, I1, ⟨Td_fr T (fun i _ _ => f1 i (by omega)), TdX_ext TX WX (fun _ _ => rfl) ⟨by rw [f1 1 (by omega)], by rw [f1 1 (by omega)]⟩ (fun i _ _ => f1 i (by omega)), WX, RS1, RO⟩, f1 4 (by omega), fun i _ _ => f1 i (by omega)⟩
  · rw [if_neg h] at RS1
    rw [if_neg h, if_neg (by decide), if_neg h, if_neg h, cr0_2 I1, cg_20 I1, RS1.1.1, undoA_4]
    have lo : ∀ k, (k < 4 ∨ (4 < k ∧ k < 7) ∨ (141 ≤ k ∧ k < 4843)) → undoA a k = a k := fun k hk => undoA_pl a (by omega)
    refine ⟨C1, rfl, I1, ⟨⟨?_, ?_, ?_, ?_, fun l hl => ?_⟩, TdX_ext TX WX (fun k hk => lo k (by omega)) ⟨by rw [f1 1 (by omega)], by rw [f1 1 (by omega)]⟩ (fun i _ _ => f1 i (by omega)), WfX_ext WX (fun k hk => lo k (by omega)) (by rw [lo 0 (by omega)]; omega) (by rw [lo 1 (by omega)]; omega), RS1, RwO_undo RO w4.2⟩, f1 4 (by omega), fun i _ _ => f1 i (by omega)⟩
    · rw [f1 1 (by omega), lo 0 (by omega)]; exact T.1
    · rw [f1 1 (by omega), lo 1 (by omega)]; exact T.2.1
    · rw [f1 1 (by omega), lo 2 (by omega)]; exact T.2.2.1
    · rw [f1 1 (by omega), lo 3 (by omega)]; exact T.2.2.2.1
    · rw [lo 0 (by omega)] at hl
      have e1 := undoA_l a (l := l) (w := 2) (by omega) (by omega)
      have e2 := undoA_l a (l := l) (w := 3) (by omega) (by omega)
      rw [if_pos hl, if_neg (by omega), if_neg (by omega), show 11 + 5 * l + 2 = 13 + 5 * l by omega] at e1
      rw [if_pos hl, if_neg (by omega), if_neg (by omega), show 11 + 5 * l + 3 = 14 + 5 * l by omega] at e2
      rw [f1 _ (by omega), f1 _ (by omega), e1, e2]
      exact T.2.2.2.2 l hl
end DC
