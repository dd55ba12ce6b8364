-- played
section PL
variable {x : Nat}
/-- both do the same, the class' side apart from the reference's array -/
def GK (x : Nat) (S : jSt) (V : LwV) (T : Nat → Int) (C : Nat → Nat → Int) (a : Nat → Int) (fc fr : jSt → Option (Int × jSt)) : Prop := ∃ v C' a', fc (cS x S C) = some (v, cS x S C') ∧ CI x S C' ∧ Rel a' C' 1 14 20 ∧ KF C C' ∧ a' 2 = a 2 ∧ ∀ S2 F, F 1 = a → F 3 = T → F 0 23 = 1 → RR (x + 426) S2 V F → ∃ F', fr (rS (x + 426) S2 F) = some (v, rS (x + 426) S2 F') ∧ RK (x + 426) S2 F F' a'
variable {S : jSt} {V : LwV} {T : Nat → Int} {C : Nat → Nat → Int} {a : Nat → Int}
theorem o_cv {p ci : Nat} {q : Option (Int × jSt)} {k : Int → jSt → Option (Int × jSt)} (ht : S.2.2.1 p = (0, ci)) : fcallv (cS x S C) (p : Int) ci q k = fcall q k := by
  unfold fcallv
  rw [gS_ty, gS_tyn, if_pos ht]
theorem c_num {x' p n i : Nat} {Vt : Nat → Option Den} {rws : Nat → Row} (hx : x + 426 ≤ x') (h : ScO x' S p n Vt rws) (hi : i < n) : ∃ f : Nat → Int, RowsC f n rws ∧ (∀ c : Nat, c < 3 → f_X6_numberOf (p : Int) (i : Int) (c : Int) (cS x S C) = some (f (4 * i + (c + 1)), cS x S C)) ∧ f_X6_kindOf (p : Int) (i : Int) (cS x S C) = some (f (4 * i), cS x S C) ∧ S.2.2.1 p = (0, 6) ∧ n ≤ 24 := by
  obtain ⟨q, pr, pc, pf, pt, ⟨b0, b1, b2, b3, b4⟩, _, kp, ⟨e0, e1, _⟩, ⟨k1, _⟩, ⟨n24, _⟩, rw1, _⟩ := h
  refine ⟨S.2.2.2 pr, rw1, fun c hc => ?_, ?_, kp, n24⟩
  · unfold f_X6_numberOf
    rw [o_getr (by omega) kp e1, w32_of (z := (i : Int) * 4) (by omega) (by omega), w32_of (z := (i : Int) * 4 + 1) (by omega) (by omega), w32_of (by omega) (by omega), o_ald (by omega) k1 (by omega) (by omega), show ((i : Int) * 4 + 1 + (c : Int)).toNat = 4 * i + (c + 1) by omega]
  · unfold f_X6_kindOf
    rw [o_getr (by omega) kp e1, w32_of (z := (i : Int) * 4) (by omega) (by omega), o_ald (by omega) k1 (by omega) (by omega), show ((i : Int) * 4).toNat = 4 * i by omega]
theorem GK_clause {x' p n i t : Nat} {Vt : Nat → Option Den} {rws : Nat → Row} (hx : x + 426 ≤ x') (I : CI x S C) (Rl : Rel a C 1 14 20) (L : LvC x S (C 4) (a 2) V) (h : ScO x' S p n Vt rws) (hT : TxR T t n Vt rws) (ht : t < 4) (hi : i < n) : GK x S V T C a (f_X11_playClause (x : Int) (p : Int) (i : Int)) (f_X12_isPlayed ((x + 426 : Nat) : Int) ((705 * t + 1 + 4 * i : Nat) : Int)) := by
  obtain ⟨f, rc, nm, kd, kp, n24⟩ := c_num (C := C) hx h hi
  obtain ⟨w, _, _, _, ⟨rr, _⟩, _⟩ := hT
  obtain ⟨⟨k1, k11⟩, fk, fv, wk⟩ := rc i hi
  obtain ⟨tk, tv, _⟩ := rr i hi
  have n0 : f_X6_numberOf (p : Int) (i : Int) 0 (cS x S C) = some (f (4 * i + 1), cS x S C) := nm 0 (by omega)
  have n1 : f_X6_numberOf (p : Int) (i : Int) 1 (cS x S C) = some (f (4 * i + 2), cS x S C) := nm 1 (by omega)
  have n2 : f_X6_numberOf (p : Int) (i : Int) 2 (cS x S C) = some (f (4 * i + 3), cS x S C) := nm 2 (by omega)
  have W := (Rel_h Rl).2.2
  obtain ⟨y, hy⟩ : ∃ y, y = (rws i).2 := ⟨_, rfl⟩
  obtain ⟨k, hk⟩ : ∃ k, k = (rws i).1 := ⟨_, rfl⟩
  rw [← hk] at k1 k11 fk fv wk tk tv
  rw [← hy] at fv wk tv
  clear hk hy nm rc rr
  have tx : ∀ (S2 : jSt) (F : Nat → Nat → Int), F 3 = T → RI (x + 426) S2 F → ∀ (c : Nat), c < 4 → ∀ g, fald (rS (x + 426) S2 F) ((x + 426 + 3 : Nat) : Int) (((705 * t + 1 + 4 * i : Nat) : Int) + (c : Int)) 1 g = g (T (705 * t + 1 + 4 * i + c)) := fun S2 F e3 R c hc g => by
    rw [g_ald (i := 3) (by omega) R.1.2.2.2.1 (by omega) (by omega), e3, show (((705 * t + 1 + 4 * i : Nat) : Int) + (c : Int)).toNat = 705 * t + 1 + 4 * i + c by omega]
  have tx0 : ∀ (S2 : jSt) (F : Nat → Nat → Int), F 3 = T → RI (x + 426) S2 F → ∀ g, fald (rS (x + 426) S2 F) ((x + 426 + 3 : Nat) : Int) ((705 * t + 1 + 4 * i : Nat) : Int) 1 g = g (T (705 * t + 1 + 4 * i)) := fun S2 F e3 R g => by
    have := tx S2 F e3 R 0 (by omega) g
    rw [show ((705 * t + 1 + 4 * i : Nat) : Int) + ((0 : Nat) : Int) = ((705 * t + 1 + 4 * i : Nat) : Int) by omega] at this
    exact this
  have txw : ∀ (S2 : jSt) (F : Nat → Nat → Int), F 3 = T → RI (x + 426) S2 F → ∀ (z : Int) (c : Nat), z = (c : Int) → c < 4 → ∀ g, fald (rS (x + 426) S2 F) ((x + 426 + 3 : Nat) : Int) (w32 (((705 * t + 1 + 4 * i : Nat) : Int) + z)) 1 g = g (T (705 * t + 1 + 4 * i + c)) := fun S2 F e3 R z c hz hc g => by
    subst hz
    rw [w32_of (by omega) (by omega), tx S2 F e3 R c hc]
  have x1 : ∀ (S2 : jSt) (F : Nat → Nat → Int), F 3 = T → RI (x + 426) S2 F → ∀ g, fald (rS (x + 426) S2 F) ((x + 426 + 3 : Nat) : Int) (w32 (((705 * t + 1 + 4 * i : Nat) : Int) + 1)) 1 g = g (T (705 * t + 1 + 4 * i + 1)) := fun S2 F e3 R g => txw S2 F e3 R 1 1 rfl (by omega) g
  have x2 : ∀ (S2 : jSt) (F : Nat → Nat → Int), F 3 = T → RI (x + 426) S2 F → ∀ g, fald (rS (x + 426) S2 F) ((x + 426 + 3 : Nat) : Int) (w32 (((705 * t + 1 + 4 * i : Nat) : Int) + 2)) 1 g = g (T (705 * t + 1 + 4 * i + 2)) := fun S2 F e3 R g => txw S2 F e3 R 2 2 rfl (by omega) g
  have x3 : ∀ (S2 : jSt) (F : Nat → Nat → Int), F 3 = T → RI (x + 426) S2 F → ∀ g, fald (rS (x + 426) S2 F) ((x + 426 + 3 : Nat) : Int) (w32 (((705 * t + 1 + 4 * i : Nat) : Int) + 3)) 1 g = g (T (705 * t + 1 + 4 * i + 3)) := fun S2 F e3 R g => txw S2 F e3 R 3 3 rfl (by omega) g
  unfold GK f_X11_playClause f_X11_playClause_b109 f_X11_playClause_b135 f_X11_playClause_b94 f_X11_playClause_b191 f_X12_isPlayed f_X12_isPlayed_b94 f_X12_isPlayed_b108 f_X12_isPlayed_b139
  have : k = 1 ∨ k = 2 ∨ k = 3 ∨ k = 4 ∨ k = 5 ∨ k = 6 ∨ k = 7 ∨ k = 8 ∨ k = 9 ∨ k = 10 ∨ k = 11 := by omega
  rcases this with rfl | rfl | rfl | rfl | rfl | rfl | rfl | rfl | rfl | rfl | rfl
  · rw [if_pos (by omega), o_cv kp, n0, fcall_some, if_pos (by omega), o_cv kp, n1, fcall_some, if_pos (by omega), o_cv kp, n2, fcall_some, if_pos (by omega), o_cv kp, kd, fcall_some, fk, if_neg (by decide), if_neg (by decide), if_neg (by decide), if_neg (by decide), if_neg (by decide), if_neg (by decide), if_neg (by decide), if_neg (by decide)]
    refine ⟨1, C, a, rfl, I, Rl, KF_r C, rfl, fun S2 F e1 e3 wr R2 => ?_⟩
    rw [r_tx R2.1, x1 S2 F e3 R2.1, r_tx R2.1, x2 S2 F e3 R2.1, r_tx R2.1, tx0 S2 F e3 R2.1, tk, if_neg (by decide), if_neg (by decide), if_neg (by decide), if_neg (by decide), if_neg (by decide), if_neg (by decide), if_neg (by decide), if_neg (by decide)]
    exact ⟨F, rfl, by rw [← e1]; exact RK_r R2.1⟩
  · rw [if_pos (by omega), o_cv kp, n0, fcall_some, if_pos (by omega), o_cv kp, n1, fcall_some, if_pos (by omega), o_cv kp, n2, fcall_some, if_pos (by omega), o_cv kp, kd, fcall_some, fk, if_neg (by decide), if_neg (by decide), if_neg (by decide), if_neg (by decide), if_neg (by decide), if_neg (by decide), if_neg (by decide), if_neg (by decide)]
    refine ⟨1, C, a, rfl, I, Rl, KF_r C, rfl, fun S2 F e1 e3 wr R2 => ?_⟩
    rw [r_tx R2.1, x1 S2 F e3 R2.1, r_tx R2.1, x2 S2 F e3 R2.1, r_tx R2.1, tx0 S2 F e3 R2.1, tk, if_neg (by decide), if_neg (by decide), if_neg (by decide), if_neg (by decide), if_neg (by decide), if_neg (by decide), if_neg (by decide), if_neg (by decide)]
    exact ⟨F, rfl, by rw [← e1]; exact RK_r R2.1⟩
  · rw [if_pos (by omega), o_cv kp, n0, fcall_some, if_pos (by omega), o_cv kp, n1, fcall_some, if_pos (by omega), o_cv kp, n2, fcall_some, if_pos (by omega), o_cv kp, kd, fcall_some, fk, if_neg (by decide), if_neg (by decide), if_neg (by decide), if_neg (by decide), if_neg (by decide), if_neg (by decide), if_neg (by decide), if_neg (by decide)]
    refine ⟨1, C, a, rfl, I, Rl, KF_r C, rfl, fun S2 F e1 e3 wr R2 => ?_⟩
    rw [r_tx R2.1, x1 S2 F e3 R2.1, r_tx R2.1, x2 S2 F e3 R2.1, r_tx R2.1, tx0 S2 F e3 R2.1, tk, if_neg (by decide), if_neg (by decide), if_neg (by decide), if_neg (by decide), if_neg (by decide), if_neg (by decide), if_neg (by decide), if_neg (by decide)]
    exact ⟨F, rfl, by rw [← e1]; exact RK_r R2.1⟩
  · obtain ⟨C', v, I', R', K⟩ := c_bidder I Rl (y 1)
    rw [if_pos (by omega), o_cv kp, n0, fcall_some, if_pos (by omega), o_cv kp, n1, fcall_some, if_pos (by omega), o_cv kp, n2, fcall_some, if_pos (by omega), o_cv kp, kd, fcall_some, fk, if_pos (by decide), show f (4 * i + 1) = y 1 from fv 1 (by decide) (by decide), cv_0 I, v, fcall_some]
    by_cases hc : (0 ≤ y 1 ∧ y 1 ≤ 9999) ∧ ¬ a 1 = 5
    · rw [if_pos hc] at R' ⊢
      rw [if_neg (by have := W.1.2.1; omega)]
      refine ⟨1, C', _, rfl, I', R', K, bidA_H _ (by have := W.1.2.1; omega) (by omega) (by omega), fun S2 F e1 e3 wr R2 => ?_⟩
      subst e1
      rw [r_tx R2.1, x1 S2 F e3 R2.1, r_tx R2.1, x2 S2 F e3 R2.1, r_tx R2.1, tx0 S2 F e3 R2.1, tk, if_neg (by decide), if_pos (by decide), show T (705 * t + 1 + 4 * i + 1) = y 1 from tv 1 (by decide) (by decide), r_cv R2.1, s_bidder R2.1 W.1.2.1, if_pos hc, fcall_some, if_neg (by have := W.1.2.1; omega)]
      exact ⟨_, rfl, RK_a R2.1⟩
    · rw [if_neg hc] at R' ⊢
      rw [if_pos rfl]
      refine ⟨0, C', _, rfl, I', R', K, rfl, fun S2 F e1 e3 wr R2 => ?_⟩
      subst e1
      rw [r_tx R2.1, x1 S2 F e3 R2.1, r_tx R2.1, x2 S2 F e3 R2.1, r_tx R2.1, tx0 S2 F e3 R2.1, tk, if_neg (by decide), if_pos (by decide), show T (705 * t + 1 + 4 * i + 1) = y 1 from tv 1 (by decide) (by decide), r_cv R2.1, s_bidder R2.1 W.1.2.1, if_neg hc, fcall_some, if_pos (by decide)]
      exact ⟨_, rfl, RK_r R2.1⟩
  · obtain ⟨C', v, I', R', K⟩ := c_sell I Rl L (y 1)
    rw [if_pos (by omega), o_cv kp, n0, fcall_some, if_pos (by omega), o_cv kp, n1, fcall_some, if_pos (by omega), o_cv kp, n2, fcall_some, if_pos (by omega), o_cv kp, kd, fcall_some, fk, if_neg (by decide), if_pos (by decide), show f (4 * i + 1) = y 1 from fv 1 (by decide) (by decide), cv_0 I, v, fcall_some]
    refine ⟨if sellN a V (y 1) = -2 then 0 else 1, C', _, by split <;> rfl, I', R', K, ?_, fun S2 F e1 e3 wr R2 => ?_⟩
    · unfold sellA
      split
      · rfl
      · rw [selA_lo _ _ _ _ (by omega), keep_2 W.1.2.2.2.2.1]
    · subst e1
      obtain ⟨F', g1, g2⟩ := s_sell R2 wr (y 1)
      refine ⟨F', ?_, g2⟩
      rw [r_tx R2.1, x1 S2 F e3 R2.1, r_tx R2.1, x2 S2 F e3 R2.1, r_tx R2.1, tx0 S2 F e3 R2.1, tk, if_neg (by decide), if_neg (by decide), if_neg (by decide), if_pos (by decide), show T (705 * t + 1 + 4 * i + 1) = y 1 from tv 1 (by decide) (by decide), r_cv R2.1, g1, fcall_some]
      split <;> rfl
  · obtain ⟨C', v, I', R', K⟩ := c_carry I Rl L (y 1)
    rw [if_pos (by omega), o_cv kp, n0, fcall_some, if_pos (by omega), o_cv kp, n1, fcall_some, if_pos (by omega), o_cv kp, n2, fcall_some, if_pos (by omega), o_cv kp, kd, fcall_some, fk, if_neg (by decide), if_neg (by decide), if_pos (by decide), show f (4 * i + 1) = y 1 from fv 1 (by decide) (by decide), cv_0 I, v, fcall_some]
    refine ⟨_, C', _, rfl, I', R', K, ?_, fun S2 F e1 e3 wr R2 => ?_⟩
    · unfold carrA
      split
      · rfl
      · rw [va_up_ne _ _ (by omega), keep_2 W.1.2.2.2.2.1]
    · subst e1
      obtain ⟨F', g1, g2⟩ := s_carry R2 (y 1)
      refine ⟨F', ?_, g2⟩
      rw [r_tx R2.1, x1 S2 F e3 R2.1, r_tx R2.1, x2 S2 F e3 R2.1, r_tx R2.1, tx0 S2 F e3 R2.1, tk, if_neg (by decide), if_neg (by decide), if_neg (by decide), if_neg (by decide), if_pos (by decide), show T (705 * t + 1 + 4 * i + 1) = y 1 from tv 1 (by decide) (by decide), r_cv R2.1, g1, fcall_some]
  · obtain ⟨C', v, I', R', K⟩ := c_burn I Rl L (y 1)
    rw [if_pos (by omega), o_cv kp, n0, fcall_some, if_pos (by omega), o_cv kp, n1, fcall_some, if_pos (by omega), o_cv kp, n2, fcall_some, if_pos (by omega), o_cv kp, kd, fcall_some, fk, if_neg (by decide), if_neg (by decide), if_neg (by decide), if_pos (by decide), show f (4 * i + 1) = y 1 from fv 1 (by decide) (by decide), cv_0 I, v, fcall_some]
    refine ⟨_, C', _, rfl, I', R', K, ?_, fun S2 F e1 e3 wr R2 => ?_⟩
    · unfold burnA
      split
      · rfl
      · rw [va_up_ne _ _ (by omega), keep_2 W.1.2.2.2.2.1]
    · subst e1
      obtain ⟨F', g1, g2⟩ := s_burn R2 (y 1)
      refine ⟨F', ?_, g2⟩
      rw [r_tx R2.1, x1 S2 F e3 R2.1, r_tx R2.1, x2 S2 F e3 R2.1, r_tx R2.1, tx0 S2 F e3 R2.1, tk, if_neg (by decide), if_neg (by decide), if_neg (by decide), if_neg (by decide), if_neg (by decide), if_pos (by decide), show T (705 * t + 1 + 4 * i + 1) = y 1 from tv 1 (by decide) (by decide), r_cv R2.1, g1, fcall_some]
  · obtain ⟨C', v, I', R', K⟩ := c_buy I Rl L (y 1) (y 2)
    rw [if_pos (by omega), o_cv kp, n0, fcall_some, if_pos (by omega), o_cv kp, n1, fcall_some, if_pos (by omega), o_cv kp, n2, fcall_some, if_pos (by omega), o_cv kp, kd, fcall_some, fk, if_neg (by decide), if_neg (by decide), if_neg (by decide), if_neg (by decide), if_pos (by decide), show f (4 * i + 1) = y 1 from fv 1 (by decide) (by decide), show f (4 * i + 2) = y 2 from fv 2 (by decide) (by decide), cv_0 I, v, fcall_some]
    refine ⟨_, C', _, rfl, I', R', K, ?_, fun S2 F e1 e3 wr R2 => ?_⟩
    · unfold buyD
      split
      · rfl
      · rw [buyA_lo _ _ _ (by omega), keep_2 W.1.2.2.2.2.1]
    · subst e1
      obtain ⟨F', g1, g2⟩ := s_buy R2 (y 1) (y 2)
      refine ⟨F', ?_, g2⟩
      rw [r_tx R2.1, x1 S2 F e3 R2.1, r_tx R2.1, x2 S2 F e3 R2.1, r_tx R2.1, tx0 S2 F e3 R2.1, tk, if_neg (by decide), if_neg (by decide), if_neg (by decide), if_neg (by decide), if_neg (by decide), if_neg (by decide), if_pos (by decide), show T (705 * t + 1 + 4 * i + 1) = y 1 from tv 1 (by decide) (by decide), show T (705 * t + 1 + 4 * i + 2) = y 2 from tv 2 (by decide) (by decide), r_cv R2.1, g1, fcall_some]
  · obtain ⟨C', v, I', R', K⟩ := c_lot I Rl (y 1) (y 2) (y 3)
    rw [if_pos (by omega), o_cv kp, n0, fcall_some, if_pos (by omega), o_cv kp, n1, fcall_some, if_pos (by omega), o_cv kp, n2, fcall_some, if_pos (by omega), o_cv kp, kd, fcall_some, fk, if_neg (by decide), if_neg (by decide), if_neg (by decide), if_neg (by decide), if_neg (by decide), if_pos (by decide), show f (4 * i + 1) = y 1 from fv 1 (by decide) (by decide), show f (4 * i + 2) = y 2 from fv 2 (by decide) (by decide), show f (4 * i + 3) = y 3 from fv 3 (by decide) (by decide), cv_0 I, v, fcall_some]
    by_cases hc : (0 ≤ y 1 ∧ y 1 ≤ 5) ∧ (0 ≤ y 2 ∧ y 2 ≤ 99) ∧ (1 ≤ y 3 ∧ y 3 ≤ 9) ∧ ¬ a 0 = 12
    · rw [if_pos hc] at R' ⊢
      rw [if_neg (by have := W.1.1; omega)]
      refine ⟨1, C', _, rfl, I', R', K, lotA_H _ _ _ (by have := W.1.1; omega) (by omega) (by omega), fun S2 F e1 e3 wr R2 => ?_⟩
      subst e1
      rw [r_tx R2.1, x1 S2 F e3 R2.1, r_tx R2.1, x2 S2 F e3 R2.1, r_tx R2.1, tx0 S2 F e3 R2.1, tk, if_pos (by decide), r_tx R2.1, x3 S2 F e3 R2.1, show T (705 * t + 1 + 4 * i + 1) = y 1 from tv 1 (by decide) (by decide), show T (705 * t + 1 + 4 * i + 2) = y 2 from tv 2 (by decide) (by decide), show T (705 * t + 1 + 4 * i + 3) = y 3 from tv 3 (by decide) (by decide), r_cv R2.1, s_lot R2.1 W.1.1, if_pos hc, fcall_some, if_neg (by have := W.1.1; omega)]
      exact ⟨_, rfl, RK_a R2.1⟩
    · rw [if_neg hc] at R' ⊢
      rw [if_pos rfl]
      refine ⟨0, C', _, rfl, I', R', K, rfl, fun S2 F e1 e3 wr R2 => ?_⟩
      subst e1
      rw [r_tx R2.1, x1 S2 F e3 R2.1, r_tx R2.1, x2 S2 F e3 R2.1, r_tx R2.1, tx0 S2 F e3 R2.1, tk, if_pos (by decide), r_tx R2.1, x3 S2 F e3 R2.1, show T (705 * t + 1 + 4 * i + 1) = y 1 from tv 1 (by decide) (by decide), show T (705 * t + 1 + 4 * i + 2) = y 2 from tv 2 (by decide) (by decide), show T (705 * t + 1 + 4 * i + 3) = y 3 from tv 3 (by decide) (by decide), r_cv R2.1, s_lot R2.1 W.1.1, if_neg hc, fcall_some, if_pos (by decide)]
      exact ⟨_, rfl, RK_r R2.1⟩
  · obtain ⟨C', v, I', R', K⟩ := c_want I Rl (y 3) (y 2) (y 1)
    rw [if_pos (by omega), o_cv kp, n0, fcall_some, if_pos (by omega), o_cv kp, n1, fcall_some, if_pos (by omega), o_cv kp, n2, fcall_some, if_pos (by omega), o_cv kp, kd, fcall_some, fk, if_neg (by decide), if_neg (by decide), if_neg (by decide), if_neg (by decide), if_neg (by decide), if_neg (by decide), if_pos (by decide), show f (4 * i + 1) = y 1 from fv 1 (by decide) (by decide), show f (4 * i + 2) = y 2 from fv 2 (by decide) (by decide), show f (4 * i + 3) = y 3 from fv 3 (by decide) (by decide), cv_0 I, v, fcall_some]
    refine ⟨_, C', _, rfl, I', R', K, ?_, fun S2 F e1 e3 wr R2 => ?_⟩
    · split
      · unfold wanA
        rw [if_neg (by omega), if_neg (by omega)]
      · rfl
    · subst e1
      rw [r_tx R2.1, x1 S2 F e3 R2.1, r_tx R2.1, x2 S2 F e3 R2.1, r_tx R2.1, tx0 S2 F e3 R2.1, tk, if_neg (by decide), if_neg (by decide), if_pos (by decide), r_tx R2.1, x3 S2 F e3 R2.1, show T (705 * t + 1 + 4 * i + 1) = y 1 from tv 1 (by decide) (by decide), show T (705 * t + 1 + 4 * i + 2) = y 2 from tv 2 (by decide) (by decide), show T (705 * t + 1 + 4 * i + 3) = y 3 from tv 3 (by decide) (by decide), r_cv R2.1, s_want R2.1 W.1]
      split
      · rw [fcall_some]; exact ⟨_, rfl, RK_a R2.1⟩
      · rw [fcall_some]; exact ⟨_, rfl, RK_r R2.1⟩
  · have yb := wk rfl
    have w7 := W.1.2.2.2.2.2.1
    obtain ⟨m, hm⟩ : ∃ m : Nat, y 1 = (m : Int) := ⟨(y 1).toNat, by omega⟩
    obtain ⟨q, hq⟩ : ∃ q : Nat, q = if a 7 + (m : Int) ≤ 9999 then m else (9999 - a 7).toNat := ⟨_, rfl⟩
    have q1 : a 7 + (q : Int) ≤ 9999 ∧ q ≤ 60 := by rw [hq]; split <;> omega
    have mi : imin (m : Int) (9999 - a 7) = (q : Int) := by unfold imin; rw [hq]; (repeat' split) <;> omega
    obtain ⟨C', v, I', R', K⟩ := c_passWeeks I Rl L q1.1 q1.2
    rw [if_pos (by omega), o_cv kp, n0, fcall_some, if_pos (by omega), o_cv kp, n1, fcall_some, if_pos (by omega), o_cv kp, n2, fcall_some, if_pos (by omega), o_cv kp, kd, fcall_some, fk, if_neg (by decide), if_neg (by decide), if_neg (by decide), if_neg (by decide), if_neg (by decide), if_neg (by decide), if_neg (by decide), if_pos (by decide), show f (4 * i + 1) = y 1 from fv 1 (by decide) (by decide), hm, cr0_1 I, cg_h I iH14, (Rel_h Rl).1.1.1, w32_of (by omega) (by omega), mi, flet_eq, cv_0 I, v, fcall_some]
    refine ⟨b01 (a 7 + (m : Int) ≤ 9999), C', _, ?_, I', R', K, (wkA_2 V q a W q1.1).1, fun S2 F e1 e3 wr R2 => ?_⟩
    · unfold b01
      by_cases hc : a 7 + (m : Int) ≤ 9999
      · rw [if_pos hc, if_pos (by rw [hq, if_pos hc])]
      · rw [if_neg hc, if_neg (by rw [hq, if_neg hc]; omega)]
    · subst e1
      obtain ⟨F', g1, g2, _⟩ := s_arePassed R2 wr (n := m) (by omega)
      rw [← hq] at g2
      refine ⟨F', ?_, g2⟩
      rw [r_tx R2.1, x1 S2 F e3 R2.1, r_tx R2.1, x2 S2 F e3 R2.1, r_tx R2.1, tx0 S2 F e3 R2.1, tk, if_neg (by decide), if_neg (by decide), if_neg (by decide), if_neg (by decide), if_neg (by decide), if_neg (by decide), if_neg (by decide), if_pos (by decide), show T (705 * t + 1 + 4 * i + 1) = y 1 from tv 1 (by decide) (by decide), hm, r_cv R2.1, g1, fcall_some]
end PL
