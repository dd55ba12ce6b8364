-- the class splits its tape
def tkB (B : Nat → Int) (L j : Nat) : Nat := kdX B L (psn B L j)
def tvB (B : Nat → Int) (L j : Nat) : Int := if psn B L j < L then vlA B L (psn B L j) else 0
def TbR (C : Nat → Nat → Int) (B : Nat → Int) (L j : Nat) : Prop := ∀ i, i < j → psn B L i < L ∧ C 405 i = (kdA B L (psn B L i) : Int) ∧ C 406 i = (psn B L i : Int) ∧ C 407 i = vlA B L (psn B L i)
theorem skp_nb {B : Nat → Int} {L p : Nat} (h : skp B L p < L) (hp : p ≤ L) : isBlk (B (skp B L p)) = false := (rE_b (pr := isBlk) (B := B) (L := L) (L - p) p rfl hp).2.2.2 h
theorem psn_nb {B : Nat → Int} {L : Nat} : ∀ j, psn B L j < L → isBlk (B (psn B L j)) = false
  | 0, h => skp_nb h (by omega)
  | j + 1, h => skp_nb h (tnd_b (psn_b B L j)).2.1
theorem vlA_b {B : Nat → Int} {L p : Nat} (hp : p < L) : 0 ≤ vlA B L p ∧ vlA B L p ≤ 10000 := by
  unfold vlA
  split
  · omega
  · split
    · rename_i h1 h2
      refine cN_b B p _ (fun i hi => ?_)
      have et : tnd B L p = rE isDigP B L p := by
        unfold tnd
        rw [if_neg (by omega), if_neg h1, if_pos h2]
      rw [et] at hi
      exact isDig_b ((rE_b (pr := isDigP) (B := B) (L := L) (L - p) p rfl (by omega)).2.2.1 (p + i) (by omega) (by omega))
    · omega
section CT2
variable {x : Nat} {S : jSt} {B : Nat → Int} {L : Nat}
theorem TPc_fr {C C' : Nat → Nat → Int} (t : TPc C B L) (h4 : C' 404 = C 404) (h3 : C' 403 0 = C 403 0) : TPc C' B L := ⟨h4.trans t.1, h3.trans t.2.1, t.2.2⟩
def SpR (x : Nat) (S : jSt) (B : Nat → Int) (L : Nat) (C : Nat → Nat → Int) (o : Option (Int × jSt)) : Prop := ∃ (C' : Nat → Nat → Int) (T : Nat), o = some (0, cS x S C') ∧ CI x S C' ∧ (∀ i, i ≠ 403 → i ≠ 405 → i ≠ 406 → i ≠ 407 → C' i = C i) ∧ C' 403 0 = C 403 0 ∧ C' 403 1 = (T : Int) ∧ T ≤ L ∧ psn B L T = L ∧ TbR C' B L T
theorem c_split7 : ∀ (n : Nat) (C : Nat → Nat → Int) (p j : Nat), CI x S C → TPc C B L → p ≤ L → C 403 1 = (j : Int) → skp B L p = psn B L j → j ≤ p → TbR C B L j → L - p < n → SpR x S B L C (jrep (fun _ _ _ => none) (fun r => f_X9_split_b7B r) n ((x + 403 : Nat) : Int) (p : Int) (cS x S C)) := by
  intro n
  induction n with
  | zero => intro C p j _ _ _ _ _ _ _ h; omega
  | succ n ih =>
    intro C p j I t hp h1 hs hj hT hn
    have t' := t
    obtain ⟨t1, t2, t3, t4⟩ := t
    rw [jrep_s]
    unfold f_X9_split_b7B
    rw [cg_403 I, t2]
    by_cases hL : L ≤ p
    · have e : p = L := by omega
      rw [if_pos (by omega)]
      refine ⟨C, j, rfl, I, fun _ _ _ _ _ => rfl, rfl, h1, by omega, ?_, hT⟩
      rw [← hs, e]
      unfold skp
      exact rE_0 (Or.inl (by omega))
    have hpL : p < L := by omega
    have al : ∀ (C' : Nat → Nat → Int) f, CI x S C' → C' 404 = B → fald (cS x S C') ((x + 404 : Nat) : Int) (p : Int) 1 f = f (B p) := fun C' f I' e => by rw [al_404 I' (by omega) (by omega), toNat_z, e]
    have adv : isBlk (B p) = true → SpR x S B L C (f_X9_split_b181 (jrep (fun _ _ _ => none) (fun r => f_X9_split_b7B r) n) ((x + 403 : Nat) : Int) (p : Int) (cS x S C)) := fun hb => by
      unfold f_X9_split_b181
      rw [flet_eq, w32_of (by omega) (by omega), zs]
      refine ih C (p + 1) j I t' (by omega) h1 ?_ (by omega) hT (by omega)
      rw [← hs]
      unfold skp
      rw [rE_1 hpL hb]
    rw [if_neg (by omega), cr403_2 I, al C _ I t1]
    by_cases b32 : B p = 32
    · rw [if_pos b32]
      exact adv (by unfold isBlk; exact decide_eq_true (Or.inl b32))
    rw [if_neg b32, cr403_2 I, al C _ I t1]
    by_cases b10 : B p = 10
    · rw [if_pos b10]
      exact adv (by unfold isBlk; exact decide_eq_true (Or.inr b10))
    have nb : isBlk (B p) = false := by unfold isBlk; exact decide_eq_false (by omega)
    have es : skp B L p = p := by unfold skp; exact rE_0 (Or.inr nb)
    have ep : psn B L j = p := by rw [← hs, es]
    have tb := tnd_b (B := B) (L := L) (p := p) hp
    have tl := tb.2.2 hpL
    rw [if_neg b10, cv_403 I, c_lastOf I t' hpL, fcall_some, cr403_4 I, cg_403 I, h1, st_406 I (by omega) (by omega), toNat_z]
    have I1 : CI x S (va_up C 406 (va_up (C 406) j (p : Int))) := CI_up I rfl
    generalize hC1 : va_up C 406 (va_up (C 406) j (p : Int)) = C1 at *
    have f1 : ∀ i, i ≠ 406 → C1 i = C i := fun i hi => by rw [← hC1, va_up_ne _ _ hi]
    have e1 : C1 406 = va_up (C 406) j (p : Int) := by rw [← hC1, va_up_self]
    rw [cr403_5 I1, cg_403 I1, f1 403 (by decide), h1, st_407 I1 (by omega) (by omega), toNat_z]
    have I2 : CI x S (va_up C1 407 (va_up (C1 407) j 0)) := CI_up I1 rfl
    generalize hC2 : va_up C1 407 (va_up (C1 407) j 0) = C2 at *
    have f2 : ∀ i, i ≠ 406 → i ≠ 407 → C2 i = C i := fun i hi hi2 => by rw [← hC2, va_up_ne _ _ hi2, f1 i hi]
    have e2 : C2 407 = va_up (C 407) j 0 := by rw [← hC2, va_up_self, f1 407 (by decide)]
    have e26 : C2 406 = va_up (C 406) j (p : Int) := by rw [← hC2, va_up_ne _ _ (by decide), e1]
    have t2' : TPc C2 B L := TPc_fr t' (f2 404 (by decide) (by decide)) (by rw [f2 403 (by decide) (by decide)])
    rw [cr403_2 I2, al C2 _ I2 t2'.1, s_let, fcall_some]
    have fin : ∀ C3 : Nat → Nat → Int, CI x S C3 → (∀ i, i ≠ 405 → i ≠ 406 → i ≠ 407 → C3 i = C i) → C3 405 = va_up (C 405) j (kdA B L p : Int) → C3 406 = va_up (C 406) j (p : Int) → C3 407 = va_up (C 407) j (vlA B L p) → SpR x S B L C (f_X9_split_b169 (jrep (fun _ _ _ => none) (fun r => f_X9_split_b7B r) n) ((x + 403 : Nat) : Int) ((tnd B L p : Nat) - 1 : Int) (cS x S C3)) := fun C3 I3 g0 g5 g6 g7 => by
      unfold f_X9_split_b169 f_X9_split_b181
      rw [cg_403 I3, g0 403 (by decide) (by decide) (by decide), h1, w32_of (by omega) (by omega), cp_403 I3, flet_eq, w32_of (by omega) (by omega), zs, show ((tnd B L p : Nat) : Int) - 1 + 1 = ((tnd B L p : Nat) : Int) by omega]
      have I4 : CI x S (va_up C3 403 (va_up (C3 403) 1 ((j + 1 : Nat) : Int))) := CI_up I3 rfl
      have q4 : ∀ i, i ≠ 403 → va_up C3 403 (va_up (C3 403) 1 ((j + 1 : Nat) : Int)) i = C3 i := fun i hi => va_up_ne _ _ hi
      have q0 : va_up C3 403 (va_up (C3 403) 1 ((j + 1 : Nat) : Int)) 403 0 = C 403 0 := by rw [va_up_self, va_up_ne _ _ (by decide), g0 403 (by decide) (by decide) (by decide)]
      obtain ⟨C', T, v, I', f', r0, r1, r2, r3, r4⟩ := ih (va_up C3 403 (va_up (C3 403) 1 ((j + 1 : Nat) : Int))) (tnd B L p) (j + 1) I4 (TPc_fr t' (by rw [q4 404 (by decide), g0 404 (by decide) (by decide) (by decide)]) q0) tb.2.1 (by rw [va_up_self, va_up_self]) (by rw [psn, ep]) (by omega) (fun i hi => by
        rw [q4 405 (by decide), q4 406 (by decide), q4 407 (by decide), g5, g6, g7]
        by_cases e : i = j
        · subst e
          rw [va_up_self, va_up_self, va_up_self, ep]
          exact ⟨hpL, rfl, rfl, rfl⟩
        · rw [va_up_ne _ _ e, va_up_ne _ _ e, va_up_ne _ _ e]
          exact hT i (by omega)) (by omega)
      refine ⟨C', T, v, I', fun i i3 i5 i6 i7 => ?_, r0.trans q0, r1, r2, r3, r4⟩
      rw [f' i i3 i5 i6 i7, q4 i i3, g0 i i5 i6 i7]
    by_cases hl : isLetP (B p) = true
    · have et : tnd B L p = rE isLetP B L p := by
        unfold tnd
        rw [if_neg (by omega), if_pos hl]
      have rb := rE_b (pr := isLetP) (B := B) (L - p) p rfl hp
      rw [if_pos hl, if_neg (by decide), cr403_3 I2, cg_403 I2, f2 403 (by decide) (by decide), h1, cv_403 I2, w32_of (by omega) (by omega), show ((tnd B L p : Nat) : Int) - 1 + 1 = ((tnd B L p : Nat) : Int) by omega, c_wordKind I2 t2' tl tb.2.1 (fun i q1 q2 => by have := isLet_b (rb.2.2.1 i q1 (by rw [← et]; exact q2)); omega), fcall_some, st_405 I2 (by omega) (by omega), toNat_z]
      refine fin _ (CI_up I2 rfl) (fun i i5 i6 i7 => by rw [va_up_ne _ _ i5, f2 i i6 i7]) ?_ ?_ ?_
      · rw [va_up_self, f2 405 (by decide) (by decide)]
        unfold kdA
        rw [if_pos hl]
      · rw [va_up_ne _ _ (by decide), e26]
      · rw [va_up_ne _ _ (by decide), e2]
        unfold vlA
        rw [if_pos hl]
    rw [if_neg hl, if_pos rfl, cr403_2 I2, al C2 _ I2 t2'.1, s_dig, fcall_some]
    by_cases hd : isDigP (B p) = true
    · have et : tnd B L p = rE isDigP B L p := by
        unfold tnd
        rw [if_neg (by omega), if_neg hl, if_pos hd]
      have rb := rE_b (pr := isDigP) (B := B) (L - p) p rfl hp
      rw [if_pos hd, if_neg (by decide), cr403_3 I2, cg_403 I2, f2 403 (by decide) (by decide), h1, st_405 I2 (by omega) (by omega), toNat_z]
      have I3 : CI x S (va_up C2 405 (va_up (C2 405) j 30)) := CI_up I2 rfl
      generalize hC3 : va_up C2 405 (va_up (C2 405) j 30) = C3 at *
      have f3 : ∀ i, i ≠ 405 → C3 i = C2 i := fun i hi => by rw [← hC3, va_up_ne _ _ hi]
      have t3' : TPc C3 B L := TPc_fr t2' (f3 404 (by decide)) (by rw [f3 403 (by decide)])
      rw [cr403_5 I3, cg_403 I3, f3 403 (by decide), f2 403 (by decide) (by decide), h1, cv_403 I3, w32_of (by omega) (by omega), show ((tnd B L p : Nat) : Int) - 1 + 1 = ((tnd B L p : Nat) : Int) by omega, c_numberIn I3 t3' (by omega) tb.2.1 (fun i q1 q2 => isDig_b (rb.2.2.1 i q1 (by rw [← et]; exact q2))), fcall_some, st_407 I3 (by omega) (by omega), toNat_z]
      refine fin _ (CI_up I3 rfl) (fun i i5 i6 i7 => by rw [va_up_ne _ _ i7, f3 i i5, f2 i i6 i7]) ?_ ?_ ?_
      · rw [va_up_ne _ _ (by decide), ← hC3, va_up_self, f2 405 (by decide) (by decide)]
        unfold kdA
        rw [if_neg hl, if_pos hd]
        rfl
      · rw [va_up_ne _ _ (by decide), f3 406 (by decide), e26]
      · rw [va_up_self, f3 407 (by decide), e2, va_uu]
        unfold vlA
        rw [if_neg hl, if_pos hd]
    rw [if_neg hd, if_pos rfl, cr403_3 I2, cg_403 I2, f2 403 (by decide) (by decide), h1, cr403_2 I2, al C2 _ I2 t2'.1]
    have sg : ∀ z : Int, (decide (z ≠ 0)) = decide (p + 1 < tnd B L p) → SpR x S B L C (f_X9_split_b165 (jrep (fun _ _ _ => none) (fun r => f_X9_split_b7B r) n) ((x + 403 : Nat) : Int) ((tnd B L p : Nat) - 1 : Int) ((x + 405 : Nat) : Int) (j : Int) (B p) z (cS x S C2)) := fun z hz => by
      unfold f_X9_split_b165
      rw [s_sgnK, fcall_some, st_405 I2 (by omega) (by omega), toNat_z]
      refine fin _ (CI_up I2 rfl) (fun i i5 i6 i7 => by rw [va_up_ne _ _ i5, f2 i i6 i7]) ?_ ?_ ?_
      · rw [va_up_self, f2 405 (by decide) (by decide), hz]
        unfold kdA
        rw [if_neg hl, if_neg hd]
      · rw [va_up_ne _ _ (by decide), e26]
      · rw [va_up_ne _ _ (by decide), e2]
        unfold vlA
        rw [if_neg hl, if_neg hd]
    by_cases h2 : ((tnd B L p : Nat) : Int) - 1 ≤ (p : Int)
    · rw [if_pos h2]
      exact sg 0 (by rw [decide_eq_false (show ¬ (p + 1 < tnd B L p) by omega)]; rfl)
    · rw [if_neg h2]
      exact sg 1 (by rw [decide_eq_true (show p + 1 < tnd B L p by omega)]; rfl)
theorem psn_L {B : Nat → Int} {L T : Nat} (h : psn B L T = L) : ∀ d, psn B L (T + d) = L
  | 0 => h
  | d + 1 => by
    rw [show T + (d + 1) = (T + d) + 1 by omega, psn, psn_L h d]
    have e : tnd B L L = L := by
      unfold tnd
      rw [if_pos (Nat.le_refl _)]
    rw [e]
    unfold skp
    exact rE_0 (Or.inl (Nat.le_refl _))
theorem c_split {C : Nat → Nat → Int} (I : CI x S C) (t : TPc C B L) : ∃ C' T, f_X9_split ((x + 403 : Nat) : Int) (cS x S C) = some (0, cS x S C') ∧ CI x S C' ∧ (∀ i, i ≠ 403 → i ≠ 405 → i ≠ 406 → i ≠ 407 → C' i = C i) ∧ C' 403 0 = (L : Int) ∧ TKs C' T (tkB B L) (tvB B L) ∧ (∀ j, j ≤ T → plc C' j = (psn B L j : Int)) ∧ psn B L T = L ∧ ∀ j, j < T → psn B L j < L := by
  unfold f_X9_split f_X9_split_b7
  rw [cp_403 I]
  have I1 : CI x S (va_up C 403 (va_up (C 403) 1 0)) := CI_up I rfl
  have e0 : va_up C 403 (va_up (C 403) 1 0) 403 0 = C 403 0 := by rw [va_up_self, va_up_ne _ _ (by decide)]
  obtain ⟨C', T, v, I', f', r0, r1, r2, r3, r4⟩ := c_split7 (x := x) (S := S) (B := B) (L := L) jN (va_up C 403 (va_up (C 403) 1 0)) 0 0 I1 (TPc_fr t (va_up_ne _ _ (by decide)) e0) (by omega) (by rw [va_up_self, va_up_self]; rfl) rfl (by omega) (fun i hi => by omega) (by have := t.2.2.1; unfold jN; omega)
  have e00 : C' 403 0 = (L : Int) := r0.trans (e0.trans t.2.1)
  have hL3 := t.2.2.1
  refine ⟨C', T, v, I', fun i i3 i5 i6 i7 => ?_, e00, ⟨⟨r1, by omega⟩, fun j hj => ?_, fun j hj => ?_⟩, fun j hj => ?_, r3, fun j hj => (r4 j hj).1⟩
  · rw [f' i i3 i5 i6 i7, va_up_ne _ _ i3]
  · obtain ⟨q1, q2, q3, q4⟩ := r4 j hj
    unfold tkB tvB kdX
    rw [if_pos q1, if_pos q1]
    exact ⟨q2, kdA_b B L _, q4, vlA_b q1⟩
  · unfold tkB kdX
    have := psn_L r3 (j - T)
    rw [show T + (j - T) = j by omega] at this
    rw [this, if_neg (by omega)]
  · unfold plc
    rw [r1]
    by_cases h : j < T
    · rw [if_pos (by omega), (r4 j h).2.2.1]
    · rw [if_neg (by omega), e00, show j = T by omega, r3]
end CT2
