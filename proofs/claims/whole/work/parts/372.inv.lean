-- THE TWO OBJECTS SIDE BY SIDE
def jS (x : Nat) (Z : jSt) (C F : Nat → Nat → Int) : jSt := gS x 426 (gS (x + 426) 12 Z F) C
theorem jS_c (x : Nat) (Z : jSt) (C F : Nat → Nat → Int) : jS x Z C F = cS x (gS (x + 426) 12 Z F) C := rfl
theorem jS_r (x : Nat) (Z : jSt) (C F : Nat → Nat → Int) : jS x Z C F = rS (x + 426) (gS x 426 Z C) F := by
  unfold jS rS gS
  show ((Z.1, Z.2.1, Z.2.2.1, fun p => if x ≤ p ∧ p < x + 426 then C (p - x) else if x + 426 ≤ p ∧ p < x + 426 + 12 then F (p - (x + 426)) else Z.2.2.2 p) : jSt) = (Z.1, Z.2.1, Z.2.2.1, fun p => if x + 426 ≤ p ∧ p < x + 426 + 12 then F (p - (x + 426)) else if x ≤ p ∧ p < x + 426 then C (p - x) else Z.2.2.2 p)
  congr 3
  funext p
  by_cases h1 : x ≤ p ∧ p < x + 426
  · rw [if_pos h1, if_neg (by omega), if_pos h1]
  · rw [if_neg h1]
    by_cases h2 : x + 426 ≤ p ∧ p < x + 426 + 12
    · rw [if_pos h2, if_pos h2]
    · rw [if_neg h2, if_neg h2, if_neg h1]
theorem CI_g {x y N : Nat} {Z : jSt} {C F : Nat → Nat → Int} (h : CI x Z C) : CI x (gS y N Z F) C := h
theorem RI_g {m y N : Nat} {Z : jSt} {C F : Nat → Nat → Int} (h : RI m Z F) : RI m (gS y N Z C) F := h
def NSc (x : Nat) (Z : jSt) (v : Int) : Prop := v < 0 ∨ ∃ p : Nat, v = (p : Int) ∧ x + 438 ≤ p ∧ p < Z.1 ∧ Z.2.2.1 p = (0, 6)
theorem NSc_S {x : Nat} {Z S : jSt} {v : Int} (h : NSc x Z v) (h1 : Z.1 ≤ S.1) (e : ∀ p, x + 438 ≤ p → p < Z.1 → S.2.2.1 p = Z.2.2.1 p) : NSc x S v := by
  rcases h with h | ⟨p, h2, h3, h4, h5⟩
  · exact Or.inl h
  · exact Or.inr ⟨p, h2, h3, by omega, by rw [e p h3 h4]; exact h5⟩
def TXT (x : Nat) (Z : jSt) (C F : Nat → Nat → Int) (V : LwV) (R : Nat → Nat × (Nat → Row)) : Prop := (∀ t : Nat, (t : Int) < F 1 2 → ∃ p : Nat, C 4 t = (p : Int) ∧ ScO (x + 438) Z p (R t).1 (V t) (R t).2 ∧ TxR (F 3) t (R t).1 (V t) (R t).2) ∧ F 2 2 ≤ F 1 2 ∧ ∀ t : Nat, ((t : Int) < F 2 2 → C 205 t = C 4 t) ∧ (t < 4 → NSc x Z (C 4 t) ∧ NSc x Z (C 205 t))
def TAP (C F : Nat → Nat → Int) : Prop := C 404 = F 4 ∧ C 403 0 = F 0 4 ∧ ∃ L : Nat, F 0 4 = (L : Int) ∧ L ≤ 300 ∧ ∀ i, i < L → 0 ≤ F 4 i ∧ F 4 i ≤ 255
def INV (x : Nat) (Z : jSt) (C F : Nat → Nat → Int) : Prop := (CI x Z C ∧ RI (x + 426) Z F ∧ x + 438 ≤ Z.1) ∧ Rel (F 1) C 1 14 20 ∧ Rel (F 2) C 202 215 221 ∧ (∃ V R, TXT x Z C F V R) ∧ TAP C F ∧ (C 408 0 = F 0 5 ∧ C 408 1 = F 0 6) ∧ F 0 23 = 1
def Good (x : Nat) (fc fr : jSt → Option (Int × jSt)) : Prop := ∀ Z C F, INV x Z C F → ∃ v Z' C' F', fc (jS x Z C F) = some (v, jS x Z' C' F) ∧ fr (jS x Z' C' F) = some (v, jS x Z' C' F') ∧ INV x Z' C' F' ∧ Z'.1 ≤ Z.1 + 5 ∧ Z'.2.1 ≤ Z.2.1 + 500
theorem ScO_g {x p n : Nat} {Z : jSt} {F : Nat → Nat → Int} {V : Nat → Option Den} {rws : Nat → Row} (h : ScO (x + 438) Z p n V rws) : ScO (x + 426) (gS (x + 426) 12 Z F) p n V rws := by
  obtain ⟨q, pr, pc, pf, pt, ⟨b0, b1, b2, b3, b4⟩, hi, kp, fl, kc, hn, hrow, hlaw⟩ := h
  have e : ∀ p, x + 438 ≤ p → (gS (x + 426) 12 Z F).2.2.2 p = Z.2.2.2 p := fun p hp => by
    show (if x + 426 ≤ p ∧ p < x + 426 + 12 then F (p - (x + 426)) else Z.2.2.2 p) = _
    rw [if_neg (by omega)]
  refine ⟨q, pr, pc, pf, pt, ⟨by omega, by omega, by omega, by omega, by omega⟩, hi, kp, ?_, kc, hn, ?_, ?_⟩
  · rw [e p b0]; exact fl
  · rw [e pr b1]; exact hrow
  · rw [e pf b3, e pt b4, e pc b2]; exact hlaw
section IN
variable {x : Nat} {Z : jSt} {C F : Nat → Nat → Int}
theorem INV_W (h : INV x Z C F) : Wf (F 1) := (Rel_h h.2.1).2.2
theorem TXT_C {V : LwV} {R : Nat → Nat × (Nat → Row)} (h : TXT x Z C F V R) : LvC x (gS (x + 426) 12 Z F) (C 4) (F 1 2) V := LvC_t (fun t ht => by
  obtain ⟨p, e, s, _⟩ := h.1 t ht
  exact ⟨p, _, _, e, ScO_g s⟩)
theorem TXT_R {V : LwV} {R : Nat → Nat × (Nat → Row)} (h : TXT x Z C F V R) (W : Wf (F 1)) (S2 : jSt) : LvR (x + 426) S2 (F 3) (F 1 2) V := LvR_t W.1.2.2.1.2 (fun t ht => by
  obtain ⟨p, _, _, s⟩ := h.1 t ht
  exact ⟨_, _, s⟩)
theorem Rel_im {a : Nat → Int} {C' : Nat → Nat → Int} (h : Rel a C 202 215 221) (hf : ∀ i, 202 ≤ i → i ≤ 402 → C' i = C i) : Rel a C' 202 215 221 := by
  obtain ⟨T, X, WX, ⟨S1, S2⟩, O⟩ := h
  refine ⟨Td_fr T (fun i h1 h2 => hf i h1 (by omega)), ?_, WX, ⟨?_, fun j hj => ?_⟩, O⟩
  · exact TdX_ext X WX (fun _ _ => rfl) ⟨by rw [hf 202 (by omega) (by omega)], by rw [hf 202 (by omega) (by omega)]⟩ (fun i h1 h2 => hf i (by omega) (by omega))
  · rw [hf 221 (by omega) (by omega)]; exact S1
  · rw [hf 221 (by omega) (by omega)]
    refine HX_fr (S2 j hj) (fun i h1 h2 => hf i ?_ ?_)
    · unfold offR at h1
      split at h1 <;> omega
    · unfold offR at h2
      have := S1.2.1
      split at h2
      · omega
      · have : ((C 221 1 + a 4 - (j : Int)) % 30).toNat < 30 := by omega
        omega
/-- what a call keeps: the rest follows -/
theorem INV_step {C' F' : Nat → Nat → Int} {a' : Nat → Int} {S2 : jSt} (h : INV x Z C F) (I' : CI x Z C') (R' : Rel a' C' 1 14 20) (K : KF C C') (K2 : RK (x + 426) S2 F F' a') (hz : S2.2.2.1 = Z.2.2.1) (h2 : a' 2 = F 1 2) : INV x Z C' F' := by
  obtain ⟨⟨I, R, hZ⟩, _, Ri, ⟨V, Rw, T1, T2, T3⟩, ⟨p1, p2, L, p3, p4, p5⟩, ⟨f1, f2⟩, wr⟩ := h
  obtain ⟨q1, q2, q3, q4⟩ := K2
  obtain ⟨k1, k2⟩ := K
  have F2 := q3 2 (by omega) (by omega)
  have F3 := q3 3 (by omega) (by omega)
  have F4 := q3 4 (by omega) (by omega)
  refine ⟨⟨I', ⟨?_, q1.2⟩, hZ⟩, by rw [q2]; exact R', ?_, ⟨V, Rw, ?_, ?_, ?_⟩, ⟨?_, ?_, L, ?_, p4, ?_⟩, ⟨?_, ?_⟩, ?_⟩
  · have := q1.1
    unfold RIt at this ⊢
    rw [hz] at this
    exact this
  · rw [F2]
    exact Rel_im Ri (fun i h1 h2 => k2 i h1 (by omega))
  · intro t ht
    rw [q2, h2] at ht
    rw [k1, F3]
    exact T1 t ht
  · rw [F2, q2, h2]; exact T2
  · intro t
    rw [F2, k1, k2 205 (by omega) (by omega)]
    exact T3 t
  · rw [k2 404 (by omega) (by omega), F4]; exact p1
  · rw [k2 403 (by omega) (by omega), q4 4 (by omega)]; exact p2
  · rw [q4 4 (by omega)]; exact p3
  · rw [F4]; exact p5
  · rw [k2 408 (by omega) (by omega), q4 5 (by omega)]; exact f1
  · rw [k2 408 (by omega) (by omega), q4 6 (by omega)]; exact f2
  · rw [q4 23 (by omega)]; exact wr
/-- a call of both that keeps the texts -/
theorem Good_k {fc fr : jSt → Option (Int × jSt)} (hc : ∀ Z C F V R, INV x Z C F → TXT x Z C F V R → ∃ v C' a', fc (cS x (gS (x + 426) 12 Z F) C) = some (v, cS x (gS (x + 426) 12 Z F) C') ∧ CI x (gS (x + 426) 12 Z F) C' ∧ Rel a' C' 1 14 20 ∧ KF C C' ∧ a' 2 = F 1 2 ∧ ∀ S2, S2.2.2.1 = Z.2.2.1 → RR (x + 426) S2 V F → ∃ F', fr (rS (x + 426) S2 F) = some (v, rS (x + 426) S2 F') ∧ RK (x + 426) S2 F F' a') : Good x fc fr := by
  intro Z C F h
  obtain ⟨V, R, T⟩ := h.2.2.2.1
  obtain ⟨v, C', a', h1, h2, h3, h4, h5, h6⟩ := hc Z C F V R h T
  obtain ⟨F', g1, g2⟩ := h6 (gS x 426 Z C') rfl ⟨h.1.2.1, INV_W h, TXT_R T (INV_W h) _⟩
  refine ⟨v, Z, C', F', h1, ?_, INV_step h h2 h3 h4 g2 rfl h5, by omega, by omega⟩
  rw [jS_r, jS_r]
  exact g1
end IN
section GD
variable {x : Nat}
theorem RK_up (m : Nat) (S : jSt) (F : Nat → Nat → Int) (R : RI m S F) (a' : Nat → Int) : RK m S F (va_up F 1 a') a' := RK_a R
theorem keep_2 {a : Nat → Int} (h4 : 0 ≤ a 4 ∧ a 4 ≤ 30) : keepA a 2 = a 2 := keepA_lo (by omega) (by omega) h4
theorem g_lot (a b c : Int) : Good x (f_X11_lot (x : Int) a b c) (f_X12_lot ((x + 426 : Nat) : Int) a b c) := Good_k (fun Z C F V R h T => by
  obtain ⟨C', v, I', R', K⟩ := c_lot (CI_g h.1.1) h.2.1 a b c
  have W := INV_W h
  refine ⟨_, C', _, v, I', R', K, ?_, fun S2 hS R2 => ?_⟩
  · split
    · rename_i hc
      exact lotA_H a b c (by have := W.1.1; omega) (by omega) (by omega)
    · rfl
  · rw [s_lot R2.1 W.1.1]
    split
    · exact ⟨_, rfl, RK_a R2.1⟩
    · exact ⟨F, rfl, RK_r R2.1⟩)
theorem g_bidder (a : Int) : Good x (f_X11_bidder (x : Int) a) (f_X12_bidder ((x + 426 : Nat) : Int) a) := Good_k (fun Z C F V R h T => by
  obtain ⟨C', v, I', R', K⟩ := c_bidder (CI_g h.1.1) h.2.1 a
  have W := INV_W h
  refine ⟨_, C', _, v, I', R', K, ?_, fun S2 hS R2 => ?_⟩
  · split
    · exact bidA_H a (by have := W.1.2.1; omega) (by omega) (by omega)
    · rfl
  · rw [s_bidder R2.1 W.1.2.1]
    split
    · exact ⟨_, rfl, RK_a R2.1⟩
    · exact ⟨F, rfl, RK_r R2.1⟩)
theorem g_want (a b c : Int) : Good x (f_X11_want (x : Int) a b c) (f_X12_want ((x + 426 : Nat) : Int) a b c) := Good_k (fun Z C F V R h T => by
  obtain ⟨C', v, I', R', K⟩ := c_want (CI_g h.1.1) h.2.1 a b c
  have W := INV_W h
  refine ⟨_, C', _, v, I', R', K, ?_, fun S2 hS R2 => ?_⟩
  · split
    · unfold wanA
      rw [if_neg (by omega), if_neg (by omega)]
    · rfl
  · rw [s_want R2.1 W.1]
    split
    · exact ⟨_, rfl, RK_a R2.1⟩
    · exact ⟨F, rfl, RK_r R2.1⟩)
theorem g_sell (l : Int) : Good x (f_X11_sell (x : Int) l) (f_X12_sell ((x + 426 : Nat) : Int) l) := Good_k (fun Z C F V R h T => by
  obtain ⟨C', v, I', R', K⟩ := c_sell (CI_g h.1.1) h.2.1 (TXT_C T) l
  have W := INV_W h
  refine ⟨_, C', _, v, I', R', K, ?_, fun S2 hS R2 => s_sell R2 h.2.2.2.2.2.2 l⟩
  unfold sellA
  split
  · rfl
  · rw [selA_lo _ _ _ _ (by omega), keep_2 W.1.2.2.2.2.1])
theorem g_carry (l : Int) : Good x (f_X11_carry (x : Int) l) (f_X12_carry ((x + 426 : Nat) : Int) l) := Good_k (fun Z C F V R h T => by
  obtain ⟨C', v, I', R', K⟩ := c_carry (CI_g h.1.1) h.2.1 (TXT_C T) l
  have W := INV_W h
  refine ⟨_, C', _, v, I', R', K, ?_, fun S2 hS R2 => s_carry R2 l⟩
  unfold carrA
  split
  · rfl
  · rw [va_up_ne _ _ (by omega), keep_2 W.1.2.2.2.2.1])
theorem g_burn (l : Int) : Good x (f_X11_burn (x : Int) l) (f_X12_burn ((x + 426 : Nat) : Int) l) := Good_k (fun Z C F V R h T => by
  obtain ⟨C', v, I', R', K⟩ := c_burn (CI_g h.1.1) h.2.1 (TXT_C T) l
  have W := INV_W h
  refine ⟨_, C', _, v, I', R', K, ?_, fun S2 hS R2 => s_burn R2 l⟩
  unfold burnA
  split
  · rfl
  · rw [va_up_ne _ _ (by omega), keep_2 W.1.2.2.2.2.1])
theorem g_buy (l p : Int) : Good x (f_X11_buy (x : Int) l p) (f_X12_buy ((x + 426 : Nat) : Int) l p) := Good_k (fun Z C F V R h T => by
  obtain ⟨C', v, I', R', K⟩ := c_buy (CI_g h.1.1) h.2.1 (TXT_C T) l p
  have W := INV_W h
  refine ⟨_, C', _, v, I', R', K, ?_, fun S2 hS R2 => s_buy R2 l p⟩
  unfold buyD
  split
  · rfl
  · rw [buyA_lo _ _ _ (by omega), keep_2 W.1.2.2.2.2.1])
theorem wkA_2 (V : LwV) : ∀ (n : Nat) (a : Nat → Int), Wf a → a 7 + n ≤ 9999 → wkA V a n 2 = a 2 ∧ wkA V a n 7 = a 7 + n ∧ Wf (wkA V a n)
  | 0, a, W, _ => ⟨rfl, by show a 7 = a 7 + ((0 : Nat) : Int); omega, W⟩
  | n + 1, a, W, h => by
    obtain ⟨i1, i2, i3⟩ := wkA_2 V n a W (by omega)
    have k7 : keepA (wkA V a n) 7 = wkA V a n 7 := keepA_lo (by omega) (by omega) i3.1.2.2.2.2.1
    rw [wkA]
    refine ⟨by rw [pasA_lo _ _ _ (by omega), keep_2 i3.1.2.2.2.2.1, i1], by rw [pasA_7, k7, i2]; omega, Wf_pas _ _ (Wf_keep i3) (by rw [k7, i2]; omega)⟩
theorem g_week (n : Int) : Good x (f_X11_week (x : Int) n) (f_X12_week ((x + 426 : Nat) : Int) n) := Good_k (fun Z C F V R h T => by
  obtain ⟨C', v, I', R', K⟩ := c_week (CI_g h.1.1) h.2.1 (TXT_C T) n
  have W := INV_W h
  refine ⟨_, C', _, v, I', R', K, ?_, fun S2 hS R2 => s_week R2 h.2.2.2.2.2.2 n⟩
  unfold weekA
  split
  · exact (wkA_2 V _ _ W (by omega)).1
  · rfl)
theorem g_years (sd n : Int) : Good x (f_X11_years (x : Int) sd n) (f_X12_years ((x + 426 : Nat) : Int) sd n) := Good_k (fun Z C F V R h T => by
  obtain ⟨C', v, I', R', K⟩ := c_years (CI_g h.1.1) h.2.1 (TXT_C T) sd n
  have W := INV_W h
  refine ⟨_, C', _, v, I', R', K, ?_, fun S2 hS R2 => s_years R2 h.2.2.2.2.2.2 sd n⟩
  unfold yearsA
  split
  · rename_i hc
    unfold yrA
    rw [(yrS_lo true V (k := 2) (by omega) n.toNat (Wf_x (Wf_keep W) (by omega))).2.1, va_up_ne _ _ (by omega), keep_2 W.1.2.2.2.2.1]
  · rfl)
theorem g_undo : Good x (f_X11_undo (x : Int)) (f_X12_undo ((x + 426 : Nat) : Int)) := Good_k (fun Z C F V R h T => by
  obtain ⟨C', v, I', R', K⟩ := c_undo (CI_g h.1.1) h.2.1
  have W := INV_W h
  refine ⟨_, C', _, v, I', R', K, ?_, fun S2 hS R2 => s_und R2.1 W.1⟩
  unfold undA
  split
  · rfl
  · exact undoA_pl _ (by omega))
end GD
