-- TEXT: both sides
section TE
variable {x : Nat} {Z : jSt} {C F : Nat → Nat → Int}
theorem g_self {m N : Nat} {S : jSt} {F : Nat → Nat → Int} (h : ∀ i, i < N → S.2.2.2 (m + i) = F i) : gS m N S F = S := by
  unfold gS
  obtain ⟨s1, s2, s3, s4⟩ := S
  show ((s1, s2, s3, fun p => if m ≤ p ∧ p < m + N then F (p - m) else s4 p) : jSt) = (s1, s2, s3, s4)
  congr 3
  funext p
  by_cases hp : m ≤ p ∧ p < m + N
  · rw [if_pos hp]
    have := h (p - m) (by omega)
    rw [show m + (p - m) = p by omega] at this
    exact this.symm
  · rw [if_neg hp]
theorem g_swap {m N : Nat} {A B : jSt} {F F' : Nat → Nat → Int} (h : gS m N A F = gS m N B F) : gS m N A F' = gS m N B F' := by
  have h1 : A.1 = B.1 := by
    have := congrArg (fun s : jSt => s.1) h
    exact this
  have h2 : A.2.1 = B.2.1 := by
    have := congrArg (fun s : jSt => s.2.1) h
    exact this
  have h3 : A.2.2.1 = B.2.2.1 := by
    have := congrArg (fun s : jSt => s.2.2.1) h
    exact this
  have h4 : (gS m N A F).2.2.2 = (gS m N B F).2.2.2 := congrArg (fun s : jSt => s.2.2.2) h
  unfold gS
  rw [h1, h2, h3]
  congr 3
  funext p
  have hp := congrFun h4 p
  have hp' : (if m ≤ p ∧ p < m + N then F (p - m) else A.2.2.2 p) = (if m ≤ p ∧ p < m + N then F (p - m) else B.2.2.2 p) := hp
  by_cases hr : m ≤ p ∧ p < m + N
  · rw [if_pos hr, if_pos hr]
  · rw [if_neg hr, if_neg hr] at hp'
    rw [if_neg hr, if_neg hr, hp']
theorem c_str4 {S : jSt} (I : CI x S C) {j : Nat} {z : Int} {f : jSt → Option (Int × jSt)} (h1 : j < 4) (hz : jty S z = (0, 6)) : fastr (cS x S C) ((x + 4 : Nat) : Int) (j : Int) 5 6 z f = f (cS x S (va_up C 4 (va_up (C 4) j z))) := by
  unfold fastr
  have e : jty (cS x S C) ((x + 4 : Nat) : Int) = (5, 4) := by rw [gS_ty, gS_tyn]; exact I.1 4 (by decide)
  rw [e, if_pos ⟨rfl, by omega, by show (j : Int) < ((4 : Nat) : Int); omega, Or.inr (by rw [gS_ty]; exact hz)⟩, gS_put (by decide), toNat_z]
theorem ScO_S {x p n : Nat} {S S' : jSt} {V : Nat → Option Den} {rws : Nat → Row} (h : ScO x S p n V rws) (h1 : S.1 ≤ S'.1) (e : ∀ p, x ≤ p → p < S.1 → S'.2.2.1 p = S.2.2.1 p ∧ S'.2.2.2 p = S.2.2.2 p) : ScO x S' p n V rws := by
  obtain ⟨q, pr, pc, pf, pt, ⟨b0, b1, b2, b3, b4⟩, ⟨u0, u1, u2, u3, u4⟩, kp, fl, ⟨k1, k2, k3, k4⟩, hn, hrow, hlaw⟩ := h
  refine ⟨q, pr, pc, pf, pt, ⟨b0, b1, b2, b3, b4⟩, ⟨by omega, by omega, by omega, by omega, by omega⟩, by rw [(e p b0 u0).1]; exact kp, by rw [(e p b0 u0).2]; exact fl, ⟨by rw [(e pr b1 u1).1]; exact k1, by rw [(e pc b2 u2).1]; exact k2, by rw [(e pf b3 u3).1]; exact k3, by rw [(e pt b4 u4).1]; exact k4⟩, hn, ?_, ?_⟩
  · rw [(e pr b1 u1).2]; exact hrow
  · rw [(e pf b3 u3).2, (e pt b4 u4).2, (e pc b2 u2).2]; exact hlaw
theorem textJ (h : INV x Z C F) (S2 : jSt) (R2 : RI (x + 426) S2 F) : ∃ v S' C' F', f_X11_text (x : Int) (cS x (gS (x + 426) 12 Z F) C) = some (v, cS x S' C') ∧ f_X12_text ((x + 426 : Nat) : Int) (rS (x + 426) S2 F) = some (v, rS (x + 426) S2 F') ∧ INV x S' C' F' ∧ (∀ i, i < 12 → S'.2.2.2 (x + 426 + i) = F i) ∧ S'.1 ≤ Z.1 + 5 ∧ S'.2.1 ≤ Z.2.1 + 500 := by
  have h' := h
  obtain ⟨⟨I0, RZ, hZ⟩, Rl, Ri, ⟨V, Rw, T1, T2, T3⟩, ⟨p1, p2, L, p3, p4, p5⟩, ⟨f1, f2⟩, wr⟩ := h
  have W := INV_W h'
  have w2 := W.1.2.2.1
  have w3 := W.1.2.2.2.1
  obtain ⟨S, hS⟩ : ∃ S, S = gS (x + 426) 12 Z F := ⟨_, rfl⟩
  have S1 : S.1 = Z.1 := by rw [hS]; rfl
  have Ss : S.2.1 = Z.2.1 := by rw [hS]; rfl
  have Sk : S.2.2.1 = Z.2.2.1 := by rw [hS]; rfl
  have SF : ∀ i, i < 12 → S.2.2.2 (x + 426 + i) = F i := fun i hi => by
    rw [hS]
    show (if x + 426 ≤ x + 426 + i ∧ x + 426 + i < x + 426 + 12 then F (x + 426 + i - (x + 426)) else Z.2.2.2 (x + 426 + i)) = F i
    rw [if_pos ⟨by omega, by omega⟩, Nat.add_sub_cancel_left]
  have SO : ∀ p, x + 438 ≤ p → S.2.2.2 p = Z.2.2.2 p := fun p hp => by
    rw [hS]
    show (if x + 426 ≤ p ∧ p < x + 426 + 12 then F (p - (x + 426)) else Z.2.2.2 p) = Z.2.2.2 p
    rw [if_neg (by omega)]
  have NS4 : ∀ t, t < 4 → NSc x S (C 4 t) ∧ NSc x S (C 205 t) := fun t h4 => ⟨NSc_S ((T3 t).2 h4).1 (by omega) (fun p _ _ => by rw [Sk]), NSc_S ((T3 t).2 h4).2 (by omega) (fun p _ _ => by rw [Sk])⟩
  have I : CI x S C := by rw [hS]; exact I0
  rw [← hS]
  clear hS
  obtain ⟨tc, htc⟩ : ∃ tc : Nat, F 1 2 = (tc : Int) := ⟨(F 1 2).toNat, by omega⟩
  have c14 : C 1 4 = (tc : Int) := by rw [Rl.1.2.2.1, htc]
  unfold f_X11_text f_X12_text
  rw [cr0_0 I, cg_1 I, c14, r_a R2, r_al R2 (by omega) (by omega), show (2 : Int).toNat = 2 from rfl, htc]
  by_cases h4 : tc = 4
  · rw [if_neg (by omega), if_pos (by omega)]
    refine ⟨-1, S, C, F, rfl, rfl, ?_, SF, by omega, by omega⟩
    refine ⟨⟨⟨fun i hi => by rw [Sk]; exact I0.1 i hi, I0.2⟩, ⟨?_, RZ.2⟩, by omega⟩, Rl, Ri, ⟨V, Rw, fun t ht => ?_, T2, fun t => ⟨(T3 t).1, NS4 t⟩⟩, ⟨p1, p2, L, p3, p4, p5⟩, ⟨f1, f2⟩, wr⟩
    · have := RZ.1
      unfold RIt at this ⊢
      rw [Sk]
      exact this
    · obtain ⟨p, y1, y2, y3⟩ := T1 t ht
      exact ⟨p, y1, ScO_S y2 (by omega) (fun p hp _ => ⟨by rw [Sk], SO p hp⟩), y3⟩
  have tc4 : tc < 4 := by omega
  rw [if_pos (by omega), if_neg (by omega), cr0_7 I, cv_408 I, r_cv R2]
  have tC : TPc C (F 4) L := ⟨p1, by rw [p2, p3], p4, p5⟩
  have tF : TP F (F 4) L := ⟨rfl, p3, p4, p5⟩
  obtain ⟨T, rj⟩ := readJ (x := x) (m := x + 426) (S := S) (S2 := S2) (B := F 4) (L := L) I tC R2 tF tc4 htc
  rcases rj with ⟨f, j', C1, F1, hf, v1, hx, w1, RF1, tf, e8⟩ | ⟨Vn, rws, j', n', q', w', C1, F1, v1, w1, hc, hr, cf, ⟨z0, z1⟩, tf⟩
  · -- a fault
    rw [v1, w1, fcall_some, fcall_some]
    have I1 := hx.1
    rw [cr0_6 I1, cp_403 I1, if_pos rfl]
    unfold f_X12_text_b36
    have Q1 : RI (x + 426) S2 (va_up F1 0 (va_up (F1 0) 5 (f : Int))) := RI_up0 RF1 (by decide)
    rw [r_p RF1, r_g Q1, up0, if_pos rfl, if_neg (by omega), r_g Q1, up0, if_neg (by decide), e8, r_p Q1]
    have g1 : ∀ k, va_up F1 0 (va_up (F1 0) 5 (f : Int)) 0 k = if k = 5 then (f : Int) else F1 0 k := fun k => up0 _ _ _ _
    have gi1 : ∀ i, i ≠ 0 → va_up F1 0 (va_up (F1 0) 5 (f : Int)) i = F1 i := fun i hi => va_up_ne _ _ hi
    generalize va_up F1 0 (va_up (F1 0) 5 (f : Int)) = G1 at *
    have Q2 : RI (x + 426) S2 (va_up G1 0 (va_up (G1 0) 6 (psn (F 4) L j' : Int))) := RI_up0 Q1 (by decide)
    have g2 : ∀ k, va_up G1 0 (va_up (G1 0) 6 (psn (F 4) L j' : Int)) 0 k = if k = 6 then (psn (F 4) L j' : Int) else G1 0 k := fun k => up0 _ _ _ _
    have gi2 : ∀ i, i ≠ 0 → va_up G1 0 (va_up (G1 0) 6 (psn (F 4) L j' : Int)) i = G1 i := fun i hi => va_up_ne _ _ hi
    generalize va_up G1 0 (va_up (G1 0) 6 (psn (F 4) L j' : Int)) = G2 at *
    rw [r_p Q2]
    have Q3 : RI (x + 426) S2 (va_up G2 0 (va_up (G2 0) 4 0)) := RI_up0 Q2 (by decide)
    have g3 : ∀ k, va_up G2 0 (va_up (G2 0) 4 0) 0 k = if k = 4 then 0 else G2 0 k := fun k => up0 _ _ _ _
    have gi3 : ∀ i, i ≠ 0 → va_up G2 0 (va_up (G2 0) 4 0) i = G2 i := fun i hi => va_up_ne _ _ hi
    generalize va_up G2 0 (va_up (G2 0) 4 0) = G3 at *
    have q5 : G3 0 5 = (f : Int) := by rw [g3, if_neg (by decide), g2, if_neg (by decide), g1, if_pos rfl]
    rw [r_g Q3, q5, if_neg (by omega)]
    have GI : ∀ i, i ≠ 0 → G3 i = F1 i := fun i hi => by rw [gi3 i hi, gi2 i hi, gi1 i hi]
    have Ci : ∀ i, i ≠ 403 → va_up C1 403 (va_up (C1 403) 0 0) i = C1 i := fun i hi => va_up_ne _ _ hi
    refine ⟨-1, S, va_up C1 403 (va_up (C1 403) 0 0), G3, rfl, rfl, ?_, SF, by omega, by omega⟩
    have Clo : ∀ i, i < 403 → va_up C1 403 (va_up (C1 403) 0 0) i = C i := fun i hi => by rw [Ci i (by omega), hx.2.1 i (by omega)]
    refine ⟨⟨CI_up I1 rfl, ⟨?_, Q3.2⟩, by omega⟩, ?_, ?_, ⟨V, Rw, fun t ht => ?_, ?_, fun t => ?_⟩, ⟨?_, ?_, 0, ?_, by omega, fun i hi => by omega⟩, ⟨?_, ?_⟩, ?_⟩
    · have := RZ.1
      unfold RIt at this ⊢
      rw [Sk]
      exact this
    · rw [GI 1 (by omega), tf.1 1 (by omega) (by omega) (by omega)]
      exact Rel_fr Rl (fun i h1 h2 => Clo i (by omega))
    · rw [GI 2 (by omega), tf.1 2 (by omega) (by omega) (by omega)]
      exact Rel_im Ri (fun i h1 h2 => Clo i (by omega))
    · rw [GI 1 (by omega), tf.1 1 (by omega) (by omega) (by omega)] at ht
      obtain ⟨p, y1, y2, y3⟩ := T1 t ht
      refine ⟨p, by rw [Clo 4 (by omega)]; exact y1, ScO_S y2 (by omega) (fun p hp _ => ⟨by rw [Sk], SO p hp⟩), ?_⟩
      rw [GI 3 (by omega)]
      exact TxR_c y3 (fun k k1 k2 => tf.2.1 k (by omega))
    · rw [GI 2 (by omega), tf.1 2 (by omega) (by omega) (by omega), GI 1 (by omega), tf.1 1 (by omega) (by omega) (by omega)]
      exact T2
    · rw [GI 2 (by omega), tf.1 2 (by omega) (by omega) (by omega), Clo 205 (by omega), Clo 4 (by omega)]
      exact ⟨(T3 t).1, NS4 t⟩
    · rw [Ci 404 (by decide), hx.2.1 404 (by omega), GI 4 (by omega), tf.1 4 (by omega) (by omega) (by omega)]
      exact p1
    · rw [va_up_self, va_up_self, g3, if_pos rfl]
    · rw [g3, if_pos rfl]; rfl
    · rw [Ci 408 (by decide), hx.2.2.1, g3, if_neg (by decide), g2, if_neg (by decide), g1, if_pos rfl]
    · rw [Ci 408 (by decide), hx.2.2.2, g3, if_neg (by decide), g2, if_pos rfl]
    · rw [g3, if_neg (by decide), g2, if_neg (by decide), g1, if_neg (by decide), tf.2.2 23 (by omega)]
      exact wr
  · -- a text
    obtain ⟨⟨I1, K1, _, ⟨_, hjT⟩, h5⟩, h6, hq, hn, hLw, hRc⟩ := hc
    obtain ⟨⟨RF1, _, _⟩, _, h13, hw, h3n, _, hRr⟩ := hr
    have hT := K1.1.2
    rw [v1, w1, fcall_some, fcall_some]
    rw [cr0_6 I1, cp_403 I1, if_neg (by decide)]
    have I2 : CI x S (va_up C1 403 (va_up (C1 403) 0 0)) := CI_up I1 rfl
    have Ci2 : ∀ i, i ≠ 403 → va_up C1 403 (va_up (C1 403) 0 0) i = C1 i := fun i hi => va_up_ne _ _ hi
    have C20 : va_up C1 403 (va_up (C1 403) 0 0) 403 0 = 0 := by rw [va_up_self, va_up_self]
    generalize va_up C1 403 (va_up (C1 403) 0 0) = C2 at *
    have Clo : ∀ i, i < 403 → C2 i = C i := fun i hi => by rw [Ci2 i (by omega), cf i (by omega)]
    have d14 : C2 1 4 = (tc : Int) := by rw [Clo 1 (by omega), c14]
    obtain ⟨S', vs, ⟨s1, s2⟩, so, sc⟩ := c_script (x' := x + 438) (n := n') (q := q') (V := Vn) (rws := rws) (by omega) (by omega) I2 (by rw [Ci2 408 (by decide)]; exact h5) (by rw [Ci2 408 (by decide)]; exact h6) (by omega) hn (by unfold LawC; rw [Ci2 410 (by decide), Ci2 411 (by decide), Ci2 412 (by decide)]; exact hLw) (by rw [Ci2 409 (by decide)]; exact hRc)
    have I3 : CI x S' C2 := CI_S I2 (fun p a b => (so p (by omega)).1)
    rw [cr0_0 I2, cr1_5 I2, cr0_0 I2, cg_1 I2, d14, cr0_7 I2, cv_408 I2, vs, fcall_some, c_str4 I3 tc4 (by unfold jty; rw [toNat_z]; obtain ⟨_, _, _, _, _, _, _, kp, _⟩ := sc; exact kp)]
    have I4 : CI x S' (va_up C2 4 (va_up (C2 4) tc (S.1 : Int))) := CI_ar I3 (fun k => rfl)
    have Ci4 : ∀ i, i ≠ 4 → va_up C2 4 (va_up (C2 4) tc (S.1 : Int)) i = C2 i := fun i hi => va_up_ne _ _ hi
    have C44 : va_up C2 4 (va_up (C2 4) tc (S.1 : Int)) 4 = va_up (C 4) tc (S.1 : Int) := by rw [va_up_self, Clo 4 (by omega)]
    generalize va_up C2 4 (va_up (C2 4) tc (S.1 : Int)) = C4 at *
    rw [cr0_0 I4, cg_1 I4, Ci4 1 (by decide), d14, w32_of (by omega) (by omega), cp_1 I4, zs, Ci4 1 (by decide)]
    have I5 : CI x S' (va_up C4 1 (va_up (C2 1) 4 ((tc + 1 : Nat) : Int))) := by
      have := CI_up (i := 1) (k := 4) (z := ((tc + 1 : Nat) : Int)) I4 rfl
      rw [Ci4 1 (by decide)] at this
      exact this
    have Ci5 : ∀ i, i ≠ 1 → va_up C4 1 (va_up (C2 1) 4 ((tc + 1 : Nat) : Int)) i = C4 i := fun i hi => va_up_ne _ _ hi
    have C51 : va_up C4 1 (va_up (C2 1) 4 ((tc + 1 : Nat) : Int)) 1 = va_up (C 1) 4 ((tc + 1 : Nat) : Int) := by rw [va_up_self, Clo 1 (by omega)]
    generalize va_up C4 1 (va_up (C2 1) 4 ((tc + 1 : Nat) : Int)) = C5 at *
    rw [cr0_0 I5, cg_1 I5, C51, va_up_self, w32_of (by omega) (by omega), show ((tc + 1 : Nat) : Int) - 1 = (tc : Int) by omega]
    -- the reference
    unfold f_X12_text_b36
    have Q1 : RI (x + 426) S2 (va_up F1 0 (va_up (F1 0) 5 0)) := RI_up0 RF1 (by decide)
    rw [r_p RF1, r_g Q1, up0, if_pos rfl, if_pos rfl, r_p Q1]
    have g1 : ∀ k, va_up F1 0 (va_up (F1 0) 5 0) 0 k = if k = 5 then 0 else F1 0 k := fun k => up0 _ _ _ _
    have gi1 : ∀ i, i ≠ 0 → va_up F1 0 (va_up (F1 0) 5 0) i = F1 i := fun i hi => va_up_ne _ _ hi
    generalize va_up F1 0 (va_up (F1 0) 5 0) = G1 at *
    have Q2 : RI (x + 426) S2 (va_up G1 0 (va_up (G1 0) 6 (-1))) := RI_up0 Q1 (by decide)
    have g2 : ∀ k, va_up G1 0 (va_up (G1 0) 6 (-1)) 0 k = if k = 6 then -1 else G1 0 k := fun k => up0 _ _ _ _
    have gi2 : ∀ i, i ≠ 0 → va_up G1 0 (va_up (G1 0) 6 (-1)) i = G1 i := fun i hi => va_up_ne _ _ hi
    generalize va_up G1 0 (va_up (G1 0) 6 (-1)) = G2 at *
    rw [r_p Q2]
    have Q3 : RI (x + 426) S2 (va_up G2 0 (va_up (G2 0) 4 0)) := RI_up0 Q2 (by decide)
    have g3 : ∀ k, va_up G2 0 (va_up (G2 0) 4 0) 0 k = if k = 4 then 0 else G2 0 k := fun k => up0 _ _ _ _
    have gi3 : ∀ i, i ≠ 0 → va_up G2 0 (va_up (G2 0) 4 0) i = G2 i := fun i hi => va_up_ne _ _ hi
    generalize va_up G2 0 (va_up (G2 0) 4 0) = G3 at *
    have GI : ∀ i, i ≠ 0 → G3 i = F1 i := fun i hi => by rw [gi3 i hi, gi2 i hi, gi1 i hi]
    have G31 : G3 1 = F 1 := by rw [GI 1 (by omega), tf.1 1 (by omega) (by omega) (by omega)]
    have q5 : G3 0 5 = 0 := by rw [g3, if_neg (by decide), g2, if_neg (by decide), g1, if_pos rfl]
    rw [r_g Q3, q5, if_pos rfl, r_a Q3, r_al Q3 (by omega) (by omega), show (2 : Int).toNat = 2 from rfl, G31, htc, w32_of (by omega) (by omega), r_st Q3 (by omega) (by omega), show (2 : Int).toNat = 2 from rfl, G31, zs]
    have Q4 : RI (x + 426) S2 (va_up G3 1 (va_up (F 1) 2 ((tc + 1 : Nat) : Int))) := rV Q3 (by omega) _
    have g41 : va_up G3 1 (va_up (F 1) 2 ((tc + 1 : Nat) : Int)) 1 = va_up (F 1) 2 ((tc + 1 : Nat) : Int) := va_up_self _ _ _
    have g4 : ∀ i, i ≠ 1 → va_up G3 1 (va_up (F 1) 2 ((tc + 1 : Nat) : Int)) i = G3 i := fun i hi => va_up_ne _ _ hi
    generalize va_up G3 1 (va_up (F 1) 2 ((tc + 1 : Nat) : Int)) = G4 at *
    rw [r_a Q4, r_al Q4 (by omega) (by omega), show (2 : Int).toNat = 2 from rfl, g41, va_up_self, w32_of (by omega) (by omega), show ((tc + 1 : Nat) : Int) - 1 = (tc : Int) by omega]
    refine ⟨(tc : Int), S', C5, G4, rfl, rfl, ?_, fun i hi => by rw [(so (x + 426 + i) (by omega)).2]; exact SF i hi, by omega, by omega⟩
    have a2 : ∀ k, k ≠ 2 → va_up (F 1) 2 ((tc + 1 : Nat) : Int) k = F 1 k := fun k hk => va_up_ne _ _ hk
    have a22 : va_up (F 1) 2 ((tc + 1 : Nat) : Int) 2 = ((tc + 1 : Nat) : Int) := va_up_self _ _ _
    obtain ⟨t0, t1, t2, t3, t4⟩ := Rl.1
    have SZ : ∀ p, x + 438 ≤ p → p < Z.1 → S'.2.2.1 p = Z.2.2.1 p ∧ S'.2.2.2 p = Z.2.2.2 p := fun p hp hp2 => ⟨by rw [(so p (by omega)).1, Sk], by rw [(so p (by omega)).2, SO p hp]⟩
    refine ⟨⟨I5, ⟨?_, Q4.2⟩, by omega⟩, ?_, ?_, ⟨fun t => if t = tc then Vn else V t, fun t => if t = tc then (n', rws) else Rw t, fun t ht => ?_, ?_, fun t => ⟨fun ht => ?_, fun t4 => ?_⟩⟩, ⟨?_, ?_, 0, ?_, by omega, fun i hi => by omega⟩, ⟨?_, ?_⟩, ?_⟩
    · have := RZ.1
      unfold RIt at this ⊢
      rw [(so _ (by omega)).1, (so _ (by omega)).1, (so _ (by omega)).1, (so _ (by omega)).1, (so _ (by omega)).1, (so _ (by omega)).1, (so _ (by omega)).1, (so _ (by omega)).1, (so _ (by omega)).1, (so _ (by omega)).1, (so _ (by omega)).1, (so _ (by omega)).1, Sk]
      exact this
    · rw [g41]
      refine Rel_tld Rl (fun k hk => a2 k (fun z => hk (by unfold tld; omega))) (by rw [a22]; omega) (by rw [a22, a2 3 (by omega)]; omega) ⟨?_, ?_, ?_, ?_, fun l hl => ?_⟩ (TdX_ext Rl.2.1 Rl.2.2.1 (fun k hk => a2 k (by omega)) ⟨by rw [C51, va_up_ne _ _ (by decide)], by rw [C51, va_up_ne _ _ (by decide)]⟩ (fun i h1 h2 => ?_)) (WfX_ext Rl.2.2.1 (fun k hk => a2 k (by omega)) (by rw [a2 0 (by omega)]; omega) (by rw [a2 1 (by omega)]; omega)) (fun i h1 h2 => by rw [Ci5 i (by omega), Ci4 i (by omega), Clo i (by omega)])
      · rw [C51, va_up_ne _ _ (by decide), a2 0 (by omega)]; exact t0
      · rw [C51, va_up_ne _ _ (by decide), a2 1 (by omega)]; exact t1
      · rw [C51, va_up_self, a22]
      · rw [C51, va_up_ne _ _ (by decide), a2 3 (by omega)]; exact t3
      · rw [a2 0 (by omega)] at hl
        rw [Ci5 2 (by decide), Ci4 2 (by decide), Clo 2 (by omega), Ci5 3 (by decide), Ci4 3 (by decide), Clo 3 (by omega), a2 _ (by omega), a2 _ (by omega)]
        exact t4 l hl
      · rw [Ci5 i (by omega), Ci4 i (by omega), Clo i (by omega)]
    · rw [g4 2 (by omega), GI 2 (by omega), tf.1 2 (by omega) (by omega) (by omega)]
      exact Rel_im Ri (fun i h1 h2 => by rw [Ci5 i (by omega), Ci4 i (by omega), Clo i (by omega)])
    · rw [g41, a22] at ht
      rw [Ci5 4 (by decide), C44, g4 3 (by omega), GI 3 (by omega)]
      by_cases e : t = tc
      · subst e
        simp only [if_pos]
        refine ⟨S.1, va_up_self _ _ _, sc, w', h3n, hn, by omega, hRr, fun i hi => (hRc i hi).1⟩
      · simp only [if_neg e]
        obtain ⟨p, y1, y2, y3⟩ := T1 t (by omega)
        exact ⟨p, by rw [va_up_ne _ _ e]; exact y1, ScO_S y2 (by omega) SZ, TxR_c y3 (fun k k1 k2 => tf.2.1 k (by omega))⟩
    · rw [g4 2 (by omega), GI 2 (by omega), tf.1 2 (by omega) (by omega) (by omega), g41, a22]
      omega
    · rw [g4 2 (by omega), GI 2 (by omega), tf.1 2 (by omega) (by omega) (by omega)] at ht
      rw [Ci5 205 (by decide), Ci4 205 (by decide), Clo 205 (by omega), Ci5 4 (by decide), C44, va_up_ne _ _ (by omega)]
      exact (T3 t).1 ht
    · rw [Ci5 205 (by decide), Ci4 205 (by decide), Clo 205 (by omega), Ci5 4 (by decide), C44]
      have ns : ∀ v, NSc x S v → NSc x S' v := fun v hv => NSc_S hv (by omega) (fun p _ _ => (so p (by omega)).1)
      refine ⟨?_, ns _ (NS4 t t4).2⟩
      by_cases e : t = tc
      · subst e
        rw [va_up_self]
        obtain ⟨_, _, _, _, _, ⟨b0, _⟩, ⟨u0, _⟩, kp, _⟩ := sc
        exact Or.inr ⟨S.1, rfl, b0, u0, kp⟩
      · rw [va_up_ne _ _ e]
        exact ns _ (NS4 t t4).1
    · rw [Ci5 404 (by decide), Ci4 404 (by decide), Ci2 404 (by decide), cf 404 (by omega), g4 4 (by omega), GI 4 (by omega), tf.1 4 (by omega) (by omega) (by omega)]
      exact p1
    · rw [Ci5 403 (by decide), Ci4 403 (by decide), C20, g4 0 (by omega), g3, if_pos rfl]
    · rw [g4 0 (by omega), g3, if_pos rfl]; rfl
    · rw [Ci5 408 (by decide), Ci4 408 (by decide), Ci2 408 (by decide), z0, g4 0 (by omega), g3, if_neg (by decide), g2, if_neg (by decide), g1, if_pos rfl]
    · rw [Ci5 408 (by decide), Ci4 408 (by decide), Ci2 408 (by decide), z1, g4 0 (by omega), g3, if_neg (by decide), g2, if_pos rfl]
    · rw [g4 0 (by omega), g3, if_neg (by decide), g2, if_neg (by decide), g1, if_neg (by decide), tf.2.2 23 (by omega)]
      exact wr
theorem g_text : Good x (f_X11_text (x : Int)) (f_X12_text ((x + 426 : Nat) : Int)) := by
  intro Z C F h
  obtain ⟨v0, S0, C0, F0, a1, a2, a3, a4, a5, a6⟩ := textJ h (gS x 426 Z C) h.1.2.1
  have RI1 : RI (x + 426) (gS x 426 S0 C0) F := ⟨a3.1.2.1.1, h.1.2.1.2⟩
  obtain ⟨v, S', C', F', b1, b2, b3, b4, b5, b6⟩ := textJ h (gS x 426 S0 C0) RI1
  rw [a1] at b1
  injection b1 with b1
  injection b1 with b0 b1
  subst b0
  have e0 : gS (x + 426) 12 S0 F = S0 := g_self a4
  have e1 : gS (x + 426) 12 S' F = S' := g_self b4
  have k0 : jS x S0 C0 F = cS x S0 C0 := by rw [jS_c, e0]
  have k1 : jS x S' C' F = cS x S' C' := by rw [jS_c, e1]
  have eq : jS x S0 C0 F = jS x S' C' F := by rw [k0, k1]; exact b1
  refine ⟨v0, S', C', F', ?_, ?_, b3, b5, b6⟩
  · rw [← eq, k0, jS_c]
    exact a1
  · rw [← eq, jS_r, b2]
    congr 2
    rw [jS_r]
    rw [jS_r, jS_r] at eq
    exact g_swap eq
end TE
