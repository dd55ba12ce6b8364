-- the reference's piles: what is written, what is settled, what is open
section RP2
variable {m : Nat} {S : jSt} {F : Nat → Nat → Int} {B : Nat → Int} {L t0 w0 law j w : Nat} {s : SS} {P : List Nat} {k : Nat} {wh : Int}
theorem okc_0 (o law : Nat) : okc (o : Int) 0 (lmt law) := by
  unfold lmt
  refine ⟨by omega, Or.inr ⟨by omega, by omega⟩, Or.inr ⟨by omega, ?_⟩⟩
  split <;> decide
theorem Pm_0 (h : Pm m S B L t0 w0 law F j w s P k wh) {q : Nat} {z : Int} {P' : List Nat} {k' : Nat} {wh' : Int} (hq : 16 ≤ q ∧ q ≤ 18) (e16 : (if 16 = q then z else F 0 16) = (P'.length : Int)) (e17 : (if 17 = q then z else F 0 17) = (k' : Int)) (e18 : (if 18 = q then z else F 0 18) = wh') (hP : PlR (F 5) P') : Pm m S B L t0 w0 law (va_up F 0 (va_up (F 0) q z)) j w s P' k' wh' := by
  obtain ⟨⟨R, tp, t, ht⟩, ⟨h12, h13, h14, h16, h17, h18⟩, hw, hp, hc⟩ := h
  have pf := PF_p t0 w0 F (k := q) z (by omega)
  refine ⟨⟨PF_RI pf R, PF_TP tp pf, TokS_fr t (fun i h1 h2 => by rw [up0, if_neg (by omega)]), ht⟩, ⟨?_, ?_, ?_, ?_, ?_, ?_⟩, hw, ?_, ?_⟩
  · rw [up0, if_neg (by omega), h12]
  · rw [up0, if_neg (by omega), h13]
  · rw [up0, if_neg (by omega), h14]
  · rw [up0]; exact e16
  · rw [up0]; exact e17
  · rw [up0]; exact e18
  · rw [va_up_ne _ _ (by omega)]; exact hP
  · rw [va_up_ne _ _ (by omega)]; exact hc
theorem Pm_5 (h : Pm m S B L t0 w0 law F j w s P k wh) {v : Nat → Int} (hv : PlR v P) : Pm m S B L t0 w0 law (va_up F 5 v) j w s P k wh := by
  obtain ⟨⟨R, tp, t, ht⟩, h0, hw, hp, hc⟩ := h
  have pf := PF_5 t0 w0 F v
  refine ⟨⟨PF_RI pf R, PF_TP tp pf, TokS_fr t (fun i h1 h2 => by rw [va_up_ne _ _ (by omega)]), ht⟩, ?_, hw, ?_, ?_⟩
  · rw [va_up_ne _ _ (by omega)]; exact h0
  · rw [va_up_self]; exact hv
  · rw [va_up_ne _ _ (by omega)]; exact hc
theorem Pm_LX {F' : Nat → Nat → Int} {j' : Nat} (h : Pm m S B L t0 w0 law F j w s P k wh) (l : LX F F') (t : TokS F' B L (psn B L j')) : Pm m S B L t0 w0 law F' j' w s P k wh := by
  obtain ⟨⟨R, tp, _, ht⟩, h0, hw, hp, hc⟩ := h
  refine ⟨⟨LX_RI l R, TP_LX tp l, t, ht⟩, ?_, hw, ?_, ?_⟩
  · rw [l.2 12 (by omega), l.2 13 (by omega), l.2 14 (by omega), l.2 16 (by omega), l.2 17 (by omega), l.2 18 (by omega)]; exact h0
  · rw [l.1 5 (by omega)]; exact hp
  · rw [l.1 3 (by omega)]; exact hc
theorem Pm_next (h : Pm m S B L t0 w0 law F j w s P k wh) : ∃ F', f_X12_nextToken (m : Int) (rS m S F) = some (0, rS m S F') ∧ Pm m S B L t0 w0 law F' (j + 1) w s P k wh ∧ LX F F' := by
  have h' := h
  obtain ⟨⟨R, tp, t, ht⟩, _⟩ := h'
  obtain ⟨F', v, l, t'⟩ := s_nextToken R tp t.1.2.2 (tnd_b t.1.1).2.1
  exact ⟨F', v, Pm_LX h l t', l⟩
theorem s_emit (R : RI m S F) (h12 : F 0 12 = (t0 : Int)) (h13 : F 0 13 = (w : Int)) (ht : t0 ≤ 2115) (hw : w ≤ 303) (o v : Int) : f_X12_emit (m : Int) o v (rS m S F) = some (0, rS m S (va_up (va_up F 3 (va_up (va_up (F 3) (t0 + 97 + 2 * w) o) (t0 + 97 + 2 * w + 1) v)) 0 (va_up (F 0) 13 ((w + 1 : Nat) : Int)))) := by
  unfold f_X12_emit
  rw [r_tx R, r_g R, h12, r_g R, h13, w32_of (z := (t0 : Int) + 97) (by omega) (by omega), w32_of (z := 2 * (w : Int)) (by omega) (by omega), w32_of (z := (t0 : Int) + 97 + 2 * (w : Int)) (by omega) (by omega), rt_3 R (by omega) (by omega)]
  have R1 : RI m S (va_up F 3 (va_up (F 3) ((t0 : Int) + 97 + 2 * (w : Int)).toNat o)) := rV R (by omega) _
  have e0 : va_up F 3 (va_up (F 3) ((t0 : Int) + 97 + 2 * (w : Int)).toNat o) 0 = F 0 := va_up_ne _ _ (by omega)
  rw [r_tx R1, r_g R1, e0, h12, r_g R1, e0, h13, w32_of (z := (t0 : Int) + 97) (by omega) (by omega), w32_of (z := 2 * (w : Int)) (by omega) (by omega), w32_of (z := (t0 : Int) + 97 + 2 * (w : Int)) (by omega) (by omega), w32_of (z := (t0 : Int) + 97 + 2 * (w : Int) + 1) (by omega) (by omega), rt_3 R1 (by omega) (by omega), va_up_self, va_uu]
  have R2 : RI m S (va_up F 3 (va_up (va_up (F 3) ((t0 : Int) + 97 + 2 * (w : Int)).toNat o) ((t0 : Int) + 97 + 2 * (w : Int) + 1).toNat v)) := rV R (by omega) _
  have e2 : va_up F 3 (va_up (va_up (F 3) ((t0 : Int) + 97 + 2 * (w : Int)).toNat o) ((t0 : Int) + 97 + 2 * (w : Int) + 1).toNat v) 0 = F 0 := va_up_ne _ _ (by omega)
  rw [r_g R2, e2, h13, w32_of (by omega) (by omega), r_p R2, e2, zs, show ((t0 : Int) + 97 + 2 * (w : Int)).toNat = t0 + 97 + 2 * w by omega, show ((t0 : Int) + 97 + 2 * (w : Int) + 1).toNat = t0 + 97 + 2 * w + 1 by omega]
theorem Pm_emit (h : Pm m S B L t0 w0 law F j w s P k wh) (hw : w ≤ 303) {o : Nat} {v : Int} {s' : SS} (hs : sx o v s = some s') (hk : okc (o : Int) v (lmt law)) : ∃ F', f_X12_emit (m : Int) (o : Int) v (rS m S F) = some (0, rS m S F') ∧ Pm m S B L t0 w0 law F' j (w + 1) s' P k wh ∧ PF t0 w0 F F' ∧ F' 5 = F 5 := by
  obtain ⟨⟨R, tp, t, ht⟩, ⟨h12, h13, h14, h16, h17, h18⟩, hw0, hp, hc⟩ := h
  refine ⟨_, s_emit R h12 h13 ht hw o v, ?_, ?_, ?_⟩
  · have R1 : RI m S (va_up F 3 (va_up (va_up (F 3) (t0 + 97 + 2 * w) (o : Int)) (t0 + 97 + 2 * w + 1) v)) := rV R (by omega) _
    have e0 : va_up F 3 (va_up (va_up (F 3) (t0 + 97 + 2 * w) (o : Int)) (t0 + 97 + 2 * w + 1) v) 0 = F 0 := va_up_ne _ _ (by omega)
    have e4 : va_up F 3 (va_up (va_up (F 3) (t0 + 97 + 2 * w) (o : Int)) (t0 + 97 + 2 * w + 1) v) 4 = F 4 := va_up_ne _ _ (by omega)
    have e5 : va_up F 3 (va_up (va_up (F 3) (t0 + 97 + 2 * w) (o : Int)) (t0 + 97 + 2 * w + 1) v) 5 = F 5 := va_up_ne _ _ (by omega)
    have e3 : va_up F 3 (va_up (va_up (F 3) (t0 + 97 + 2 * w) (o : Int)) (t0 + 97 + 2 * w + 1) v) 3 = va_up (va_up (F 3) (t0 + 97 + 2 * w) (o : Int)) (t0 + 97 + 2 * w + 1) v := va_up_self _ _ _
    generalize hG : va_up F 3 (va_up (va_up (F 3) (t0 + 97 + 2 * w) (o : Int)) (t0 + 97 + 2 * w + 1) v) = G at *
    rw [← e0]
    have pf := PF_p t0 w0 G (k := 13) ((w + 1 : Nat) : Int) (by omega)
    have tpG : TP G B L := ⟨e4.trans tp.1, by rw [e0]; exact tp.2.1, tp.2.2⟩
    have tG : TokS G B L (psn B L j) := TokS_fr t (fun i _ _ => by rw [e0])
    refine ⟨⟨PF_RI pf R1, PF_TP tpG pf, TokS_fr tG (fun i h1 h2 => by rw [up0, if_neg (by omega)]), ht⟩, ⟨?_, ?_, ?_, ?_, ?_, ?_⟩, by omega, ?_, ?_⟩
    · rw [up0, if_neg (by omega), e0, h12]
    · rw [up0, if_pos rfl]
    · rw [up0, if_neg (by omega), e0, h14]
    · rw [up0, if_neg (by omega), e0, h16]
    · rw [up0, if_neg (by omega), e0, h17]
    · rw [up0, if_neg (by omega), e0, h18]
    · rw [va_up_ne _ _ (by omega), e5]; exact hp
    · rw [va_up_ne _ _ (by omega), e3, show w + 1 - w0 = (w - w0) + 1 by omega, cex, cex_c (f := F 3) (w - w0) (fun q q1 q2 => by rw [va_up_ne _ _ (by omega), va_up_ne _ _ (by omega)]), hc, show t0 + 97 + 2 * w0 + 2 * (w - w0) = t0 + 97 + 2 * w by omega, va_up_self, va_up_ne _ _ (by omega), va_up_self]
      show (if okc (o : Int) v (lmt law) then sx (o : Int).toNat v s else none) = some s'
      rw [if_pos hk, toNat_z, hs]
  · refine ⟨fun i a b c => ?_, fun q hq => ?_, fun q hq => ?_⟩
    · rw [va_up_ne _ _ a, va_up_ne _ _ b]
    · rw [va_up_ne _ _ (by omega), va_up_self, va_up_ne _ _ (by omega), va_up_ne _ _ (by omega)]
    · rw [va_up_self, va_up_ne _ _ (by omega)]
  · rw [va_up_ne _ _ (by omega), va_up_ne _ _ (by omega)]
theorem r_5 (R : RI m S F) {n : Nat} (hn : n < 160) {f : Int → Option (Int × jSt)} : fald (rS m S F) ((m + 5 : Nat) : Int) (n : Int) 1 f = f (F 5 n) := by
  rw [ra_5 R (by omega) (by omega), toNat_z]
theorem Pm_settle (least : Nat) : ∀ (P : List Nat) (n : Nat) (F : Nat → Nat → Int) (w : Nat) (s : SS) (k : Nat) {P' : List Nat} {s' : SS} {k' : Nat}, Pm m S B L t0 w0 law F j w s P k wh → stl least P s k = some (P', s', k') → P.length < n → w + P.length ≤ 303 → P.length ≤ 160 → k ≤ 100 → ∃ F' w', jrep (fun _ _ _ => none) (fun r => f_X12_settle_b0B r) n (m : Int) (least : Int) (rS m S F) = some (0, rS m S F') ∧ Pm m S B L t0 w0 law F' j w' s' P' k' wh ∧ PF t0 w0 F F' ∧ w' + P'.length = w + P.length ∧ P'.length ≤ P.length ∧ k' ≤ k := by
  intro P
  induction P with
  | nil =>
    intro n F w s k P' s' k' h hst hn hw hl hk
    obtain ⟨n, rfl⟩ : ∃ q, n = q + 1 := ⟨n - 1, by omega⟩
    rw [stl] at hst
    injection hst with hst
    injection hst with e1 e2
    injection e2 with e2 e3
    subst e1; subst e2; subst e3
    rw [jrep_s]
    unfold f_X12_settle_b0B f_X12_settle_b93
    rw [r_g h.1.1, h.2.1.2.2.2.1, if_pos (show (([] : List Nat).length : Int) ≤ 0 by simp)]
    exact ⟨F, w, rfl, h, PF_r _ _ _, rfl, Nat.le_refl _, Nat.le_refl _⟩
  | cons o P ih =>
    intro n F w s k P' s' k' h hst hn hw hl hk
    obtain ⟨n, rfl⟩ : ∃ q, n = q + 1 := ⟨n - 1, by omega⟩
    rw [List.length_cons] at hn hw hl
    have R := h.1.1
    have h16 := h.2.1.2.2.2.1
    have hp := h.2.2.2.1
    rw [List.length_cons] at h16
    rw [jrep_s]
    unfold f_X12_settle_b0B f_X12_settle_b93
    rw [r_g R, h16, if_neg (by omega), r_pl R, r_g R, h16, w32_of (by omega) (by omega), show ((P.length + 1 : Nat) : Int) - 1 = (P.length : Int) by omega, r_5 R (by omega), hp.1, s_rank, fcall_some]
    rw [stl] at hst
    by_cases hr : least ≤ rk o
    · rw [if_pos hr] at hst
      rw [if_neg (by omega)]
      cases hs : sx o 0 s with
      | none => rw [hs] at hst; cases hst
      | some s1 =>
        cases hkd : kdn o k with
        | none => rw [hs, hkd] at hst; cases hst
        | some k1 =>
          rw [hs, hkd] at hst
          rw [r_g R, h16, w32_of (by omega) (by omega), show ((P.length + 1 : Nat) : Int) - 1 = (P.length : Int) by omega, r_p R]
          have h1 : Pm m S B L t0 w0 law (va_up F 0 (va_up (F 0) 16 (P.length : Int))) j w s P k wh := Pm_0 h (by omega) (if_pos rfl) (by rw [if_neg (by omega)]; exact h.2.1.2.2.2.2.1) (by rw [if_neg (by omega)]; exact h.2.1.2.2.2.2.2) hp.2
          have p1 := PF_p t0 w0 F (k := 16) (P.length : Int) (by omega)
          have e5 : va_up F 0 (va_up (F 0) 16 (P.length : Int)) 5 = F 5 := va_up_ne _ _ (by omega)
          generalize va_up F 0 (va_up (F 0) 16 (P.length : Int)) = F1 at *
          have R1 := h1.1.1
          obtain ⟨F2, v2, h2, p2, e52⟩ := Pm_emit h1 (by omega) hs (okc_0 o law)
          rw [r_pl R1, r_g R1, h1.2.1.2.2.2.1, r_5 R1 (by omega), e5, hp.1, r_cv R1, v2, fcall_some]
          have R2 := h2.1.1
          rw [r_pl R2, r_g R2, h2.2.1.2.2.2.1, r_5 R2 (by omega), e52, e5, hp.1, s_rank, fcall_some]
          have dn : kdn o k = (if k = 0 then none else some (k - 1)) → ∃ F' w', f_X12_settle_b80 (jrep (fun _ _ _ => none) (fun r => f_X12_settle_b0B r) n) (m : Int) (least : Int) (rS m S F2) = some (0, rS m S F') ∧ Pm m S B L t0 w0 law F' j w' s' P' k' wh ∧ PF t0 w0 F F' ∧ w' + P'.length = w + (P.length + 1) ∧ P'.length ≤ P.length + 1 ∧ k' ≤ k := fun hd => by
            rw [hd] at hkd
            by_cases k0 : k = 0
            · rw [if_pos k0] at hkd; cases hkd
            rw [if_neg k0] at hkd
            injection hkd with hkd
            subst hkd
            unfold f_X12_settle_b80
            rw [r_g R2, h2.2.1.2.2.2.2.1, w32_of (by omega) (by omega), r_p R2, show (k : Int) - 1 = ((k - 1 : Nat) : Int) by omega]
            have h3 : Pm m S B L t0 w0 law (va_up F2 0 (va_up (F2 0) 17 ((k - 1 : Nat) : Int))) j (w + 1) s1 P (k - 1) wh := Pm_0 h2 (by omega) (by rw [if_neg (by omega)]; exact h2.2.1.2.2.2.1) (if_pos rfl) (by rw [if_neg (by omega)]; exact h2.2.1.2.2.2.2.2) h2.2.2.2.1
            obtain ⟨F', w', v, q1, q2, q3, q4, q5⟩ := ih n _ (w + 1) s1 (k - 1) h3 hst (by omega) (by omega) (by omega) (by omega)
            exact ⟨F', w', v, q1, PF_t p1 (PF_t p2 (PF_t (PF_p t0 w0 F2 _ (by omega)) q2)), by omega, by omega, by omega⟩
          by_cases r7 : rk o = 7
          · rw [if_pos (by omega)]
            exact dn (by unfold kdn; rw [if_pos (Or.inl r7)])
          rw [if_neg (by omega), r_pl R2, r_g R2, h2.2.1.2.2.2.1, r_5 R2 (by omega), e52, e5, hp.1]
          by_cases o20 : o = 20
          · rw [if_pos (by omega)]
            exact dn (by unfold kdn; rw [if_pos (Or.inr o20)])
          rw [if_neg (by omega)]
          have : k1 = k := by
            unfold kdn at hkd
            rw [if_neg (by omega)] at hkd
            injection hkd with hkd
            exact hkd.symm
          subst this
          obtain ⟨F', w', v, q1, q2, q3, q4, q5⟩ := ih n F2 (w + 1) s1 k1 h2 hst (by omega) (by omega) (by omega) (by omega)
          exact ⟨F', w', v, q1, PF_t p1 (PF_t p2 q2), by rw [List.length_cons]; omega, by rw [List.length_cons]; omega, q5⟩
    · rw [if_neg hr] at hst
      injection hst with hst
      injection hst with e1 e2
      injection e2 with e2 e3
      subst e1; subst e2; subst e3
      rw [if_pos (by omega)]
      exact ⟨F, w, rfl, h, PF_r _ _ _, rfl, Nat.le_refl _, Nat.le_refl _⟩
theorem s_settle (least : Nat) {P' : List Nat} {s' : SS} {k' : Nat} (h : Pm m S B L t0 w0 law F j w s P k wh) (hst : stl least P s k = some (P', s', k')) (hw : w + P.length ≤ 303) (hl : P.length ≤ 160) (hk : k ≤ 100) : ∃ F' w', f_X12_settle (m : Int) (least : Int) (rS m S F) = some (0, rS m S F') ∧ Pm m S B L t0 w0 law F' j w' s' P' k' wh ∧ PF t0 w0 F F' ∧ w' + P'.length = w + P.length ∧ P'.length ≤ P.length ∧ k' ≤ k := by
  unfold f_X12_settle f_X12_settle_b0
  exact Pm_settle least P jN F w s k h hst (by unfold jN; omega) hw hl hk
def opi : List Nat → Int
  | [] => -1
  | o :: P => if 40 ≤ o then (P.length : Int) else opi P
theorem opi_b : ∀ P, (opi P = -1 ∧ opn P = 0) ∨ (0 ≤ opi P ∧ opi P < (P.length : Int) ∧ 40 ≤ opn P)
  | [] => Or.inl ⟨rfl, rfl⟩
  | o :: P => by
    rw [opi, opn, List.length_cons]
    by_cases h : 40 ≤ o
    · rw [if_pos h, if_pos h]; omega
    · rw [if_neg h, if_neg h]
      have := opi_b P
      omega
theorem opi_v {f : Nat → Int} : ∀ P, PlR f P → 0 ≤ opi P → f (opi P).toNat = (opn P : Int)
  | [], _, h => by rw [opi] at h; omega
  | o :: P, q, h => by
    rw [opi] at h ⊢
    rw [opn]
    by_cases h4 : 40 ≤ o
    · rw [if_pos h4, if_pos h4, toNat_z]; exact q.1
    · rw [if_neg h4] at h ⊢
      rw [if_neg h4]
      exact opi_v P q.2 h
theorem s_openAt (R : RI m S F) (h16 : F 0 16 = (P.length : Int)) (hp : PlR (F 5) P) (hl : P.length ≤ 160) : f_X12_openAt (m : Int) (rS m S F) = some (opi P, rS m S F) := by
  unfold f_X12_openAt f_X12_openAt_b7
  rw [r_g R, h16, flet_eq, w32_of (by omega) (by omega)]
  have key : ∀ (P : List Nat) (n : Nat), PlR (F 5) P → P.length < n → P.length ≤ 160 → jrep (fun _ _ _ => none) (fun r => f_X12_openAt_b7B r) n (m : Int) ((P.length : Int) - 1) (rS m S F) = some (opi P, rS m S F) := by
    intro P
    induction P with
    | nil =>
      intro n _ hn _
      obtain ⟨n, rfl⟩ : ∃ q, n = q + 1 := ⟨n - 1, by omega⟩
      rw [jrep_s]
      unfold f_X12_openAt_b7B f_X12_openAt_b28
      rw [if_pos (by simp)]
      rfl
    | cons o P ih =>
      intro n q hn hl
      obtain ⟨n, rfl⟩ : ∃ q, n = q + 1 := ⟨n - 1, by omega⟩
      rw [List.length_cons] at hn hl ⊢
      rw [jrep_s]
      unfold f_X12_openAt_b7B f_X12_openAt_b28
      rw [show ((P.length + 1 : Nat) : Int) - 1 = (P.length : Int) by omega, if_neg (by omega), r_pl R, r_5 R (by omega), q.1, opi]
      by_cases h4 : 40 ≤ o
      · rw [if_pos (by omega), if_pos h4]
      · rw [if_neg (by omega), if_neg h4, flet_eq, w32_of (by omega) (by omega), show (P.length : Int) + -1 = (P.length : Int) - 1 by omega]
        exact ih n q.2 (by omega) (by omega)
  exact key P jN hp (by unfold jN; omega) hl
theorem s_openNow (R : RI m S F) (h16 : F 0 16 = (P.length : Int)) (hp : PlR (F 5) P) (hl : P.length ≤ 160) : f_X12_openNow (m : Int) (rS m S F) = some (if opn P = 0 then -1 else (opn P : Int), rS m S F) := by
  unfold f_X12_openNow f_X12_openNow_b20
  rw [r_cv R, s_openAt R h16 hp hl, fcall_some]
  rcases opi_b P with ⟨h1, h2⟩ | ⟨h1, h2, h3⟩
  · rw [h1, if_neg (by decide), h2, if_pos rfl]
  · rw [if_pos h1, r_pl R, r_cv R, s_openAt R h16 hp hl, fcall_some, ra_5 R h1 (by omega), opi_v P hp h1, if_neg (by omega)]
theorem s_isCompared (R : RI m S F) (h16 : F 0 16 = (P.length : Int)) (hp : PlR (F 5) P) (hl : P.length ≤ 160) : f_X12_isCompared (m : Int) (rS m S F) = some (if cmpd P = true then 1 else 0, rS m S F) := by
  unfold f_X12_isCompared f_X12_isCompared_b7
  rw [r_g R, h16, flet_eq, w32_of (by omega) (by omega)]
  have key : ∀ (P : List Nat) (n : Nat), PlR (F 5) P → P.length < n → P.length ≤ 160 → jrep (fun _ _ _ => none) (fun r => f_X12_isCompared_b7B r) n (m : Int) ((P.length : Int) - 1) (rS m S F) = some (if cmpd P = true then 1 else 0, rS m S F) := by
    intro P
    induction P with
    | nil =>
      intro n _ hn _
      obtain ⟨n, rfl⟩ : ∃ q, n = q + 1 := ⟨n - 1, by omega⟩
      rw [jrep_s]
      unfold f_X12_isCompared_b7B f_X12_isCompared_b30 f_X12_isCompared_b51 f_X12_isCompared_b52
      rw [if_pos (by simp), if_pos (by simp)]
      rfl
    | cons o P ih =>
      intro n q hn hl
      obtain ⟨n, rfl⟩ : ∃ q, n = q + 1 := ⟨n - 1, by omega⟩
      rw [List.length_cons] at hn hl ⊢
      rw [jrep_s]
      unfold f_X12_isCompared_b7B f_X12_isCompared_b30 f_X12_isCompared_b51 f_X12_isCompared_b52
      rw [show ((P.length + 1 : Nat) : Int) - 1 = (P.length : Int) by omega, if_neg (by omega), r_pl R, r_5 R (by omega), q.1, s_rank, fcall_some, cmpd]
      by_cases h4 : 4 < rk o
      · rw [if_neg (by omega), if_pos h4, flet_eq, w32_of (by omega) (by omega), show (P.length : Int) + -1 = (P.length : Int) - 1 by omega]
        exact ih n q.2 (by omega) (by omega)
      · rw [if_pos (by omega), if_neg (by omega), if_neg h4, r_pl R, r_5 R (by omega), q.1, s_rank, fcall_some]
        by_cases h5 : rk o = 4
        · rw [if_pos (by omega), decide_eq_true h5]
          rfl
        · rw [if_neg (by omega), decide_eq_false h5]
          rfl
  exact key P jN hp (by unfold jN; omega) hl
theorem s_isAskAhead (R : RI m S F) (h16 : F 0 16 = (P.length : Int)) (hp : PlR (F 5) P) (hl : P.length ≤ 160) : f_X12_isAskAhead (m : Int) (rS m S F) = some (if asks P = true then 1 else 0, rS m S F) := by
  unfold f_X12_isAskAhead f_X12_isAskAhead_b47 f_X12_isAskAhead_b51 f_X12_isAskAhead_b52
  rw [r_cv R, s_openNow R h16 hp hl, fcall_some]
  by_cases h : opn P = 42
  · rw [if_pos (show (if opn P = 0 then (-1 : Int) else (opn P : Int)) = 42 by rw [h]; rfl)]
    cases P with
    | nil => cases h
    | cons o P =>
      rw [List.length_cons] at h16 hl
      have ea : asks (o :: P) = decide (40 ≤ o ∨ (1 ≤ rk o ∧ rk o ≤ 3)) := by
        unfold asks
        rw [h]
        have e : hd (o :: P) = o := rfl
        rw [e]
        simp
      rw [r_pl R, r_g R, h16, w32_of (by omega) (by omega), show ((P.length + 1 : Nat) : Int) - 1 = (P.length : Int) by omega, r_5 R (by omega), hp.1, ea]
      by_cases h4 : 40 ≤ o
      · rw [if_pos (by omega), decide_eq_true (Or.inl h4), if_pos rfl]
      · rw [if_neg (by omega), r_pl R, r_g R, h16, w32_of (by omega) (by omega), show ((P.length + 1 : Nat) : Int) - 1 = (P.length : Int) by omega, r_5 R (by omega), hp.1, s_rank, fcall_some, s_isIn, fcall_some, if_b01]
        by_cases hr : 1 ≤ rk o ∧ rk o ≤ 3
        · rw [if_pos (by omega), decide_eq_true (Or.inr hr), if_pos rfl]
        · rw [if_neg (by omega), decide_eq_false (by omega), if_neg (by decide)]
  · rw [if_neg (show ¬ (if opn P = 0 then (-1 : Int) else (opn P : Int)) = 42 by split <;> omega)]
    have ea : asks P = false := by
      unfold asks
      exact decide_eq_false (fun q => h q.1)
    rw [ea, if_neg (by decide)]
end RP2
