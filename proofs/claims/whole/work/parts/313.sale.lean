-- the class' law, as the sale asks it
def LvC (x : Nat) (S : jSt) (P : Nat → Int) (n : Int) (V : LwV) : Prop := ∀ t : Nat, (t : Int) < n → (0 ≤ P t ∧ jty S (P t) = (0, 6)) ∧ ∀ s : Nat, s < 3 → (∀ C, CI x S C → f_X6_rules (P t) ((s : Int) + 1) (cS x S C) = some (b01 ((V t s).isSome = true), cS x S C)) ∧ ∀ d, V t s = some d → ∀ (C : Nat → Nat → Int) (a : Nat → Int) (o l : Nat) (b : Int), CI x S C → isH o → Td a C 1 → Hs a C o → Wf a → (l : Int) < a 0 → (s = 0 → 0 ≤ b ∧ b < a 1) → (s ≠ 0 → b = -1) → ∃ C', f_X2_value ((x + 414 : Nat) : Int) (P t) ((s : Int) + 1) ((x + o : Nat) : Int) (l : Int) b (cS x S C) = some (d (envL a l b) (wfn a), cS x S C') ∧ CI x S C' ∧ ∀ i, i ≠ 415 → i ≠ 416 → C' i = C i
def HR (wr : Bool) (x : Nat) (S : jSt) (V : LwV) (a : Nat → Int) (C : Nat → Nat → Int) (o : Nat) : Prop := CI x S C ∧ Td a C 1 ∧ Hs a C o ∧ Wf a ∧ LvC x S (C 4) (a 2) V ∧ (wr = true → Bk a C o)
section CR2
variable {wr : Bool} {x : Nat} {S : jSt} {V : LwV} {C : Nat → Nat → Int} {a : Nat → Int} {o : Nat}
theorem isH_no {i : Nat} (ho : isH o) (h1 : o ≤ i) (h2 : i ≤ o + 5) : i ≠ 413 ∧ i ≠ 414 ∧ i ≠ 415 ∧ i ≠ 416 ∧ i ≠ 1 ∧ i ≠ 2 ∧ i ≠ 3 ∧ i ≠ 4 ∧ i ≠ 417 ∧ i ≠ 418 ∧ i ≠ 419 := by unfold isH at ho; omega
theorem Td_fr {C' : Nat → Nat → Int} {t : Nat} (T : Td a C t) (h : ∀ i, t ≤ i → i ≤ t + 2 → C' i = C i) : Td a C' t := by
  unfold Td
  rw [h t (by omega) (by omega), h (t + 1) (by omega) (by omega), h (t + 2) (by omega) (by omega)]
  exact T
theorem Hs_fr {C' : Nat → Nat → Int} (H : Hs a C o) (h : ∀ i, o ≤ i → i ≤ o + 5 → C' i = C i) : Hs a C' o := by
  unfold Hs HsL HsB HsZ
  rw [h o (by omega) (by omega), h (o + 1) (by omega) (by omega), h (o + 2) (by omega) (by omega), h (o + 3) (by omega) (by omega), h (o + 4) (by omega) (by omega)]
  exact H
theorem Bk_fr {C' : Nat → Nat → Int} (H : Bk a C o) (h : ∀ i, o ≤ i → i ≤ o + 5 → C' i = C i) : Bk a C' o := by
  unfold Bk
  rw [h o (by omega) (by omega), h (o + 5) (by omega) (by omega)]
  exact H
theorem HR_fr {C' : Nat → Nat → Int} (ho : isH o) (h : HR wr x S V a C o) (I : CI x S C') (hf : ∀ i, i ≠ 413 → i ≠ 415 → i ≠ 416 → C' i = C i) : HR wr x S V a C' o := by
  obtain ⟨_, T, H, W, L, B⟩ := h
  have hh : ∀ i, o ≤ i → i ≤ o + 5 → C' i = C i := fun i h1 h2 => by
    have := isH_no ho h1 h2
    exact hf i (by omega) (by omega) (by omega)
  refine ⟨I, Td_fr T (fun i _ _ => hf i (by omega) (by omega) (by omega)), Hs_fr H hh, W, ?_, fun w => Bk_fr (B w) hh⟩
  rw [hf 4 (by omega) (by omega) (by omega)]
  exact L
theorem c_cvS (I : CI x S C) {p : Int} {q : Option (Int × jSt)} {k : Int → jSt → Option (Int × jSt)} (h : jty S p = (0, 6)) : fcallv (cS x S C) p 6 q k = fcall q k := by
  unfold fcallv
  rw [gS_ty, if_pos h]
theorem c_wantAt (b l : Nat) (hb : b < 5) (hl : l < 12) (S : jSt) : f_X11_wantAt (b : Int) (l : Int) S = some (((12 * b + l : Nat) : Int), S) := by
  unfold f_X11_wantAt
  rw [w32_of (z := (b : Int) * 12) (by omega) (by omega), w32_of (by omega) (by omega), show (b : Int) * 12 + (l : Int) = ((12 * b + l : Nat) : Int) by omega]
theorem c_bidOf (ho : isH o) (h : HR wr x S V a C o) {b l : Nat} (hb : (b : Int) < a 1) (hl : (l : Int) < a 0) : ∃ C', f_X5_bidOf ((x + 413 : Nat) : Int) ((x + o : Nat) : Int) (b : Int) (l : Int) (cS x S C) = some (bidv a V b l, cS x S C') ∧ CI x S C' ∧ ∀ i, i ≠ 415 → i ≠ 416 → C' i = C i := by
  obtain ⟨I, T, H, W, L, B⟩ := h
  obtain ⟨⟨w0, w1, w2, w3, w4, w7⟩, WL, WB⟩ := W
  have wb := WB b hb
  obtain ⟨e1, e2⟩ := H.2.2.1 b hb
  have hl12 : l < 12 := by omega
  have fin : ∀ (C' : Nat → Nat → Int) (v : Int), CI x S C' → C' (o + 3) = C (o + 3) → f_X5_bidOf_b56 ((x + o : Nat) : Int) (b : Int) v (cS x S C') = some (if clp 1000000 v < a (71 + 14 * b) then clp 1000000 v else a (71 + 14 * b), cS x S C') := by
    intro C' v I' e
    unfold f_X5_bidOf_b56
    rw [crh_2 I' ho, alh_3 I' ho (by omega) (by omega), toNat_z, e, e1]
    congr 2
    unfold clp imax imin
    (repeat' split) <;> omega
  have nolaw : f_X5_bidOf_b30 ((x + o : Nat) : Int) (b : Int) (l : Int) (cS x S C) = some (if clp 1000000 (a (72 + 14 * b + l)) < a (71 + 14 * b) then clp 1000000 (a (72 + 14 * b + l)) else a (71 + 14 * b), cS x S C) := by
    unfold f_X5_bidOf_b30
    rw [crh_3 I ho, c_wantAt b l (by omega) hl12, fcall_some, alh_4 I ho (by omega) (by omega), toNat_z, e2 l hl12]
    exact fin C _ I rfl
  unfold f_X5_bidOf bidv sayv
  rw [cr413_2 I, cr413_2 I, cg_1 I, T.2.2.2.1, cv_1 I, c_scriptOf I T ⟨w0, w1, w2, w3, w4, w7⟩, fcall_some]
  by_cases ht : a 3 < 0
  · simp only [if_pos ht]
    rw [if_neg (show ¬ (0 ≤ a 3 ∧ a 3 < a 2) by omega), if_pos (by omega)]
    exact ⟨C, nolaw, I, fun _ _ _ => rfl⟩
  · simp only [if_neg ht]
    rw [if_pos (show 0 ≤ a 3 ∧ a 3 < a 2 by omega)]
    obtain ⟨⟨p0, p1⟩, L2⟩ := L (a 3).toNat (by omega)
    obtain ⟨lr, lv⟩ := L2 0 (by omega)
    have lr' := lr C I
    rw [show ((0 : Nat) : Int) + 1 = 1 from rfl] at lr'
    rw [if_neg (by omega), if_pos p0, c_cvS I p1, lr', fcall_some, if_b01]
    cases hv : V (a 3).toNat 0 with
    | none =>
      rw [if_neg (by simp)]
      exact ⟨C, nolaw, I, fun _ _ _ => rfl⟩
    | some d =>
      rw [if_pos (show (some d).isSome = true from rfl), cr413_3 I, cv_414 I]
      obtain ⟨C', v1, I', f'⟩ := lv d hv C a o l b I ho T H ⟨⟨w0, w1, w2, w3, w4, w7⟩, WL, WB⟩ hl (fun _ => ⟨by omega, hb⟩) (fun q => absurd rfl q)
      rw [show ((0 : Nat) : Int) + 1 = 1 from rfl] at v1
      rw [v1, fcall_some, fin C' _ I' (f' _ (isH_no ho (by omega) (by omega)).2.2.1 (isH_no ho (by omega) (by omega)).2.2.2.1)]
      exact ⟨C', rfl, I', f'⟩
theorem c_reserveFor (ho : isH o) (h : HR wr x S V a C o) {l : Nat} (hl : (l : Int) < a 0) : ∃ C', f_X5_reserveFor ((x + 413 : Nat) : Int) ((x + o : Nat) : Int) (l : Int) (cS x S C) = some (resv a V l, cS x S C') ∧ CI x S C' ∧ ∀ i, i ≠ 415 → i ≠ 416 → C' i = C i := by
  obtain ⟨I, T, H, W, L, B⟩ := h
  have W' := W
  obtain ⟨⟨w0, w1, w2, w3, w4, w7⟩, WL, WB⟩ := W
  have wl := WL l hl
  have e1 := (T.2.2.2.2 l hl).1
  have hl12 : l < 12 := by omega
  have nolaw : f_X5_reserveFor_b27 ((x + 413 : Nat) : Int) (l : Int) (cS x S C) = some (clp 999 (a (13 + 5 * l) / 2), cS x S C) := by
    unfold f_X5_reserveFor_b27
    rw [cr413_2 I, cr1_2 I, al_2 I (by omega) (by omega), toNat_z, e1, if_neg (by decide)]
    congr 2
    rw [idiv_n (by omega) (by omega) (by omega) (by omega)]
    unfold clp
    rw [if_neg (by omega), if_neg (by omega)]
  unfold f_X5_reserveFor resv sayv
  rw [cr413_2 I, cr413_2 I, cg_1 I, T.2.2.2.1, cv_1 I, c_scriptOf I T W'.1, fcall_some]
  by_cases ht : a 3 < 0
  · simp only [if_pos ht]
    rw [if_neg (show ¬ (0 ≤ a 3 ∧ a 3 < a 2) by omega), if_pos (by omega)]
    exact ⟨C, nolaw, I, fun _ _ _ => rfl⟩
  · simp only [if_neg ht]
    rw [if_pos (show 0 ≤ a 3 ∧ a 3 < a 2 by omega)]
    obtain ⟨⟨p0, p1⟩, L2⟩ := L (a 3).toNat (by omega)
    obtain ⟨lr, lv⟩ := L2 1 (by omega)
    have lr' := lr C I
    rw [show ((1 : Nat) : Int) + 1 = 2 from rfl] at lr'
    rw [if_neg (by omega), if_pos p0, c_cvS I p1, lr', fcall_some, if_b01]
    cases hv : V (a 3).toNat 1 with
    | none =>
      rw [if_neg (by simp)]
      exact ⟨C, nolaw, I, fun _ _ _ => rfl⟩
    | some d =>
      rw [if_pos (show (some d).isSome = true from rfl), cr413_3 I, cv_414 I]
      obtain ⟨C', v1, I', f'⟩ := lv d hv C a o l (-1) I ho T H W' hl (fun q => absurd q (by omega)) (fun _ => rfl)
      rw [show ((1 : Nat) : Int) + 1 = 2 from rfl] at v1
      rw [v1, fcall_some, clp_m _ _ (by omega)]
      exact ⟨C', rfl, I', f'⟩
theorem c_warmsBy (ho : isH o) (h : HR wr x S V a C o) {l : Nat} (hl : (l : Int) < a 0) {t : Int} (ht0 : t < a 2) : ∃ C', f_X5_warmsBy ((x + 413 : Nat) : Int) (if 0 ≤ t ∧ t < a 2 then C 4 t.toNat else -1) ((x + o : Nat) : Int) (l : Int) (cS x S C) = some (wrmv a V t l, cS x S C') ∧ CI x S C' ∧ ∀ i, i ≠ 415 → i ≠ 416 → C' i = C i := by
  obtain ⟨I, T, H, W', L, B⟩ := h
  unfold f_X5_warmsBy f_X5_warmsBy_b12 wrmv sayv
  by_cases ht : t < 0
  · simp only [if_pos ht]
    rw [if_neg (show ¬ (0 ≤ t ∧ t < a 2) by omega), if_pos (by omega)]
    exact ⟨C, rfl, I, fun _ _ _ => rfl⟩
  · simp only [if_neg ht]
    rw [if_pos (show 0 ≤ t ∧ t < a 2 by omega)]
    obtain ⟨⟨p0, p1⟩, L2⟩ := L t.toNat (by omega)
    obtain ⟨lr, lv⟩ := L2 2 (by omega)
    have lr' := lr C I
    rw [show ((2 : Nat) : Int) + 1 = 3 from rfl] at lr'
    rw [if_neg (by omega), if_pos p0, c_cvS I p1, lr', fcall_some, if_b01]
    cases hv : V t.toNat 2 with
    | none =>
      rw [if_neg (by simp)]
      exact ⟨C, rfl, I, fun _ _ _ => rfl⟩
    | some d =>
      rw [if_pos (show (some d).isSome = true from rfl), cr413_3 I, cv_414 I]
      obtain ⟨C', v1, I', f'⟩ := lv d hv C a o l (-1) I ho T H W' hl (fun q => absurd q (by omega)) (fun _ => rfl)
      rw [show ((2 : Nat) : Int) + 1 = 3 from rfl] at v1
      rw [v1, fcall_some, clp_m _ _ (by omega)]
      exact ⟨C', rfl, I', f'⟩
end CR2
