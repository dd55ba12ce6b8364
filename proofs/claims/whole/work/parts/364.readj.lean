-- a text is read, on both sides
theorem CTf_r (C : Nat → Nat → Int) : CTf C C := ⟨fun _ _ => rfl, rfl, rfl⟩
theorem CTf_t {C C1 C2 : Nat → Nat → Int} (h1 : CTf C C1) (h2 : CTf C1 C2) : CTf C C2 := ⟨fun i hi => (h2.1 i hi).trans (h1.1 i hi), h2.2.1.trans h1.2.1, h2.2.2.trans h1.2.2⟩
def TJR (x m : Nat) (S S2 : jSt) (B : Nat → Int) (L T t0 : Nat) (C F : Nat → Nat → Int) (o1 o2 : Option (Int × jSt)) : Prop :=
  (∃ f j' C' F', (1 ≤ f ∧ f ≤ 6) ∧ o1 = some (0, cS x S C') ∧ FX x S C f (psn B L j' : Nat) C' ∧ o2 = some ((f : Int), rS m S2 F') ∧ RI m S2 F' ∧ TF t0 F F' ∧ F' 0 8 = (psn B L j' : Int)) ∨
  (∃ (V : Nat → Option Den) (rws : Nat → Row) (j' n' q' w' : Nat) (C' F' : Nat → Nat → Int), o1 = some (1, cS x S C') ∧ o2 = some (0, rS m S2 F') ∧ PJc x S B L T C' j' n' q' V rws ∧ PJr m S2 B L t0 F' j' n' w' V rws ∧ CTf C C' ∧ TF t0 F F')
section RJ
variable {x m : Nat} {S S2 : jSt} {B : Nat → Int} {L T t0 : Nat}
theorem loopJ (ht : t0 ≤ 2115) : ∀ (N : Nat) (C F : Nat → Nat → Int) (j n q w : Nat) (V : Nat → Option Den) (rws : Nat → Row), PJc x S B L T C j n q V rws → PJr m S2 B L t0 F j n w V rws → T - j < N → TJR x m S S2 B L T t0 C F (jrep (fun _ _ _ => none) (fun r => f_X4_read_b58B r) N ((x + 408 : Nat) : Int) (n : Int) (cS x S C)) (jrep (fun _ _ => none) (fun r => f_X12_readText_b43B r) N (m : Int) (rS m S2 F)) := by
  intro N
  induction N with
  | zero => intro C F j n q w V rws _ _ h; omega
  | succ N ih =>
    intro C F j n q w V rws hc hr hN
    have hC := hc.1
    have hF := hr.1
    have h24 := hc.2.2.2.1
    rw [jrep_s, jrep_s]
    generalize hR1 : jrep (fun _ _ _ => none) (fun r => f_X4_read_b58B r) N = r1 at *
    generalize hR2 : jrep (fun _ _ => none) (fun r => f_X12_readText_b43B r) N = r2 at *
    show TJR x m S S2 B L T t0 C F (f_X4_read_b58B r1 ((x + 408 : Nat) : Int) (n : Int) (cS x S C)) (f_X12_readText_b43B r2 (m : Int) (rS m S2 F))
    unfold f_X4_read_b58B f_X4_read_b88 f_X12_readText_b43B
    have c44 : F 0 9 = 0 ↔ tkB B L j = 44 := tcode hF.2.2 (k' := 44) (by omega) (by omega)
    rw [if_neg (by omega), cv_408 hC.1, CQ_knd hC hc.2.1, fcall_some, r_g hF.1]
    by_cases h44 : tkB B L j = 44
    · rw [if_pos (by omega), if_pos (c44.mpr h44)]
      exact Or.inr ⟨V, rws, j, n, q, w, C, F, rfl, rfl, hc, hr, CTf_r C, TF_r t0 F⟩
    · rw [if_neg (by omega), if_neg (fun z => h44 (c44.mp z)), cv_408 hC.1, r_cv hF.1]
      rcases clauseJ hc hr ht h44 with ⟨f, j', C', F', hf, v, hx, w2, R', tf, e8⟩ | ⟨V', rws', j', q', w', C', F', v, w2, hc', hr', hj, cf, tf⟩
      · rw [v, w2, fcall_some, fcall_some, if_pos rfl, if_neg (by omega)]
        exact Or.inl ⟨f, j', C', F', hf, rfl, hx, rfl, R', tf, e8⟩
      · rw [v, w2, fcall_some, fcall_some, if_neg (by decide), if_pos rfl, flet_eq, w32_of (by omega) (by omega), zs]
        have hjT := hc'.1.2.2.2.1.2
        rcases ih C' F' j' (n + 1) q' w' V' rws' hc' hr' (by omega) with ⟨f, j2, C2, F2, hf, v2, hx, w3, R2, tf2, e8⟩ | ⟨V2, rws2, j2, n2, q2, w22, C2, F2, v2, w3, hc2, hr2, cf2, tf2⟩
        · exact Or.inl ⟨f, j2, C2, F2, hf, v2, FX_e hx (fun i hi => by
            by_cases h4 : i = 404
            · rw [h4]; exact cf.1 404 (by omega)
            · exact cf.1 i (by omega)), w3, R2, TF_t tf tf2, e8⟩
        · exact Or.inr ⟨V2, rws2, j2, n2, q2, w22, C2, F2, v2, w3, hc2, hr2, CTf_t cf cf2, TF_t tf tf2⟩
theorem c_fill {C : Nat → Nat → Int} (I : CI x S C) {i N : Nat} (hi : i < 426) (ht : ctyp i = (1, N)) (hN : N ≤ 300) (hr : ∀ k, crf i k = 0) : ∃ C', f_J7_fill_53178 ((x + i : Nat) : Int) 0 (cS x S C) = some (0, cS x S C') ∧ CI x S C' ∧ (∀ i', i' ≠ i → C' i' = C i') ∧ ∀ k, k < N → C' i k = 0 := by
  unfold f_J7_fill_53178 f_J7_fill_53178_b5
  rw [c_ln I hi ht (by omega)]
  have key : ∀ (n k : Nat) (C : Nat → Nat → Int), CI x S C → k ≤ N → N - k < n → (∀ k', k' < k → C i k' = 0) → ∃ C', jrep (fun _ _ _ _ _ => none) (fun r => f_J7_fill_53178_b5B r) n ((x + i : Nat) : Int) 0 (k : Int) (N : Int) (cS x S C) = some (0, cS x S C') ∧ CI x S C' ∧ (∀ i', i' ≠ i → C' i' = C i') ∧ ∀ k, k < N → C' i k = 0 := by
    intro n
    induction n with
    | zero => intro k C _ _ h; omega
    | succ n ih =>
      intro k C I hk hn h0
      rw [jrep_s]
      unfold f_J7_fill_53178_b5B
      by_cases h : N ≤ k
      · rw [if_pos (by omega)]
        exact ⟨C, rfl, I, fun _ _ => rfl, fun k' hk' => h0 k' (by omega)⟩
      · rw [if_neg (by omega), c_st I hi ht (by omega) (by omega), toNat_z, flet_eq, w32_of (by omega) (by omega), zs]
        obtain ⟨C', v, I', f', z⟩ := ih (k + 1) (va_up C i (va_up (C i) k 0)) (CI_ar I hr) (by omega) (by omega) (fun k' hk' => by
          rw [va_up_self]
          by_cases e : k' = k
          · rw [e, va_up_self]
          · rw [va_up_ne _ _ e]; exact h0 k' (by omega))
        exact ⟨C', v, I', fun i' hi' => by rw [f' i' hi', va_up_ne _ _ hi'], z⟩
  exact key jN 0 C I (by omega) (by unfold jN; omega) (fun k' h => by omega)
/-- the reading of a tape, whole -/
theorem readJ {C F : Nat → Nat → Int} {tc : Nat} (I : CI x S C) (tC : TPc C B L) (R : RI m S2 F) (tF : TP F B L) (htc : tc < 4) (h2 : F 1 2 = (tc : Int)) : ∃ T, (∃ f j' C' F', (1 ≤ f ∧ f ≤ 6) ∧ f_X4_read ((x + 408 : Nat) : Int) (cS x S C) = some (0, cS x S C') ∧ FX x S C f (psn B L j' : Nat) C' ∧ f_X12_readText (m : Int) (rS m S2 F) = some ((f : Int), rS m S2 F') ∧ RI m S2 F' ∧ TF (705 * tc) F F' ∧ F' 0 8 = (psn B L j' : Int)) ∨ (∃ (V : Nat → Option Den) (rws : Nat → Row) (j' n' q' w' : Nat) (C' F' : Nat → Nat → Int), f_X4_read ((x + 408 : Nat) : Int) (cS x S C) = some (1, cS x S C') ∧ f_X12_readText (m : Int) (rS m S2 F) = some (0, rS m S2 F') ∧ PJc x S B L T C' j' n' q' V rws ∧ PJr m S2 B L (705 * tc) F' j' n' w' V rws ∧ (∀ i, (i < 403 ∨ 412 < i ∨ i = 404) → C' i = C i) ∧ (C' 408 0 = 0 ∧ C' 408 1 = -1) ∧ TF (705 * tc) F F') := by
  obtain ⟨C1, T, v1, I1, f1, e10, K1, pl1, psT, psl⟩ := c_split I tC
  refine ⟨T, ?_⟩
  -- the class
  have cls : ∃ C2, f_X4_read ((x + 408 : Nat) : Int) (cS x S C) = f_X4_read_b58 ((x + 408 : Nat) : Int) 0 (cS x S C2) ∧ CI x S C2 ∧ (∀ i, i ≠ 408 → i ≠ 409 → i ≠ 411 → i ≠ 412 → C2 i = C1 i) ∧ (C2 408 0 = 0 ∧ C2 408 1 = -1 ∧ C2 408 3 = 0 ∧ C2 408 5 = 0 ∧ C2 408 6 = 0) ∧ ∀ k, k < 4 → C2 411 k = 0 ∧ C2 412 k = 0 := by
    unfold f_X4_read
    rw [cr408_2 I, cv_403 I, v1, fcall_some]
    have A1 : CI x S (va_up C1 408 (va_up (C1 408) 3 0)) := CI_up I1 rfl
    rw [cp_408 I1, cp_408 A1, va_uu, va_up_self]
    have A2 : CI x S (va_up C1 408 (va_up (va_up (C1 408) 3 0) 5 0)) := by
      have := CI_up (z := 0) (k := 5) (i := 408) A1 rfl
      rw [va_up_self, va_uu] at this
      exact this
    rw [cp_408 A2, va_uu, va_up_self]
    have A3 : CI x S (va_up C1 408 (va_up (va_up (va_up (C1 408) 3 0) 5 0) 6 0)) := by
      have := CI_up (z := 0) (k := 6) (i := 408) A2 rfl
      rw [va_up_self, va_uu] at this
      exact this
    rw [cp_408 A3, va_uu, va_up_self]
    have A4 : CI x S (va_up C1 408 (va_up (va_up (va_up (va_up (C1 408) 3 0) 5 0) 6 0) 0 0)) := by
      have := CI_up (z := 0) (k := 0) (i := 408) A3 rfl
      rw [va_up_self, va_uu] at this
      exact this
    rw [cp_408 A4, va_uu, va_up_self]
    have A5 : CI x S (va_up C1 408 (va_up (va_up (va_up (va_up (va_up (C1 408) 3 0) 5 0) 6 0) 0 0) 1 (-1))) := by
      have := CI_up (z := -1) (k := 1) (i := 408) A4 rfl
      rw [va_up_self, va_uu] at this
      exact this
    have e8 : va_up C1 408 (va_up (va_up (va_up (va_up (va_up (C1 408) 3 0) 5 0) 6 0) 0 0) 1 (-1)) 408 = va_up (va_up (va_up (va_up (va_up (C1 408) 3 0) 5 0) 6 0) 0 0) 1 (-1) := va_up_self _ _ _
    have ei : ∀ i, i ≠ 408 → va_up C1 408 (va_up (va_up (va_up (va_up (va_up (C1 408) 3 0) 5 0) 6 0) 0 0) 1 (-1)) i = C1 i := fun i hi => va_up_ne _ _ hi
    generalize va_up C1 408 (va_up (va_up (va_up (va_up (va_up (C1 408) 3 0) 5 0) 6 0) 0 0) 1 (-1)) = D at *
    obtain ⟨D1, w1, J1, g1, z1⟩ := c_fill A5 (i := 409) (N := 96) (by decide) rfl (by omega) (fun k => rfl)
    obtain ⟨D2, w2, J2, g2, z2⟩ := c_fill J1 (i := 411) (N := 4) (by decide) rfl (by omega) (fun k => rfl)
    obtain ⟨D3, w3, J3, g3, z3⟩ := c_fill J2 (i := 412) (N := 4) (by decide) rfl (by omega) (fun k => rfl)
    rw [cr408_7 A5, w1, fcall_some, cr408_9 J1, w2, fcall_some, cr408_10 J2, w3, fcall_some]
    have d8 : D3 408 = va_up (va_up (va_up (va_up (va_up (C1 408) 3 0) 5 0) 6 0) 0 0) 1 (-1) := by rw [g3 408 (by decide), g2 408 (by decide), g1 408 (by decide), e8]
    refine ⟨D3, rfl, J3, fun i a b c d => by rw [g3 i d, g2 i c, g1 i b, ei i a], ⟨?_, ?_, ?_, ?_, ?_⟩, fun k hk => ⟨by rw [g3 411 (by decide)]; exact z2 k hk, z3 k hk⟩⟩
    · rw [d8]; rfl
    · rw [d8]; rfl
    · rw [d8]; rfl
    · rw [d8]; rfl
    · rw [d8]; rfl
  -- the reference
  have ref : ∃ F2, f_X12_readText (m : Int) (rS m S2 F) = f_X12_readText_b43 (m : Int) (rS m S2 F2) ∧ PJr m S2 B L (705 * tc) F2 0 0 0 (fun _ => none) (fun _ => (0, fun _ => 0)) ∧ TF (705 * tc) F F2 := by
    unfold f_X12_readText
    rw [r_a R, r_al R (by omega) (by omega), show (2 : Int).toNat = 2 from rfl, h2, w32_of (by omega) (by omega), r_p R, show (705 : Int) * (tc : Int) = ((705 * tc : Nat) : Int) by omega]
    have R1 : RI m S2 (va_up F 0 (va_up (F 0) 12 ((705 * tc : Nat) : Int))) := RI_up0 R (by decide)
    have g1 : ∀ k', va_up F 0 (va_up (F 0) 12 ((705 * tc : Nat) : Int)) 0 k' = if k' = 12 then ((705 * tc : Nat) : Int) else F 0 k' := fun k' => up0 F 12 _ k'
    have gi1 : ∀ i, i ≠ 0 → va_up F 0 (va_up (F 0) 12 ((705 * tc : Nat) : Int)) i = F i := fun i hi => va_up_ne _ _ hi
    generalize va_up F 0 (va_up (F 0) 12 ((705 * tc : Nat) : Int)) = F1 at *
    rw [r_tx R1, r_g R1, g1, if_pos rfl, rt_3 R1 (by omega) (by omega), toNat_z]
    have R2 : RI m S2 (va_up F1 3 (va_up (F1 3) (705 * tc) 0)) := rV R1 (by omega) _
    have g2 : ∀ i, i ≠ 3 → va_up F1 3 (va_up (F1 3) (705 * tc) 0) i = F1 i := fun i hi => va_up_ne _ _ hi
    have g23 : va_up F1 3 (va_up (F1 3) (705 * tc) 0) 3 = va_up (F 3) (705 * tc) 0 := by rw [va_up_self, gi1 3 (by omega)]
    generalize va_up F1 3 (va_up (F1 3) (705 * tc) 0) = F2 at *
    rw [r_p R2]
    have R3 : RI m S2 (va_up F2 0 (va_up (F2 0) 13 0)) := RI_up0 R2 (by decide)
    have g3 : ∀ k', va_up F2 0 (va_up (F2 0) 13 0) 0 k' = if k' = 13 then 0 else F2 0 k' := fun k' => up0 F2 13 _ k'
    have gi3 : ∀ i, i ≠ 0 → va_up F2 0 (va_up (F2 0) 13 0) i = F2 i := fun i hi => va_up_ne _ _ hi
    generalize va_up F2 0 (va_up (F2 0) 13 0) = F3 at *
    rw [r_p R3]
    have R4 : RI m S2 (va_up F3 0 (va_up (F3 0) 19 0)) := RI_up0 R3 (by decide)
    have g4 : ∀ k', va_up F3 0 (va_up (F3 0) 19 0) 0 k' = if k' = 19 then 0 else F3 0 k' := fun k' => up0 F3 19 _ k'
    have gi4 : ∀ i, i ≠ 0 → va_up F3 0 (va_up (F3 0) 19 0) i = F3 i := fun i hi => va_up_ne _ _ hi
    generalize va_up F3 0 (va_up (F3 0) 19 0) = F4 at *
    rw [r_p R4]
    have R5 : RI m S2 (va_up F4 0 (va_up (F4 0) 7 0)) := RI_up0 R4 (by decide)
    have g5 : ∀ k', va_up F4 0 (va_up (F4 0) 7 0) 0 k' = if k' = 7 then 0 else F4 0 k' := fun k' => up0 F4 7 _ k'
    have gi5 : ∀ i, i ≠ 0 → va_up F4 0 (va_up (F4 0) 7 0) i = F4 i := fun i hi => va_up_ne _ _ hi
    generalize va_up F4 0 (va_up (F4 0) 7 0) = F5 at *
    have q0 : ∀ k', k' ≠ 7 → k' ≠ 12 → k' ≠ 13 → k' ≠ 19 → F5 0 k' = F 0 k' := fun k' a b c d => by rw [g5, if_neg a, g4, if_neg d, g3, if_neg c, g2 0 (by omega), g1, if_neg b]
    have qi : ∀ i, i ≠ 0 → i ≠ 3 → F5 i = F i := fun i a b => by rw [gi5 i a, gi4 i a, gi3 i a, g2 i b, gi1 i a]
    have q3 : F5 3 = va_up (F 3) (705 * tc) 0 := by rw [gi5 3 (by omega), gi4 3 (by omega), gi3 3 (by omega), g23]
    have q12 : F5 0 12 = ((705 * tc : Nat) : Int) := by rw [g5, if_neg (by omega), g4, if_neg (by omega), g3, if_neg (by omega), g2 0 (by omega), g1, if_pos rfl]
    have q13 : F5 0 13 = 0 := by rw [g5, if_neg (by omega), g4, if_neg (by omega), g3, if_pos rfl]
    have q19 : F5 0 19 = 0 := by rw [g5, if_neg (by omega), g4, if_pos rfl]
    have tp5 : TP F5 B L := ⟨(qi 4 (by omega) (by omega)).trans tF.1, by rw [q0 4 (by omega) (by omega) (by omega) (by omega)]; exact tF.2.1, tF.2.2⟩
    obtain ⟨F6, v6, l6, t6⟩ := s_nextToken R5 tp5 (p := 0) (by rw [g5, if_pos rfl]; rfl) (by omega)
    rw [r_cv R5, v6, fcall_some]
    refine ⟨F6, rfl, ⟨⟨LX_RI l6 R5, TP_LX tp5 l6, t6⟩, by rw [l6.2 12 (by omega), q12], by rw [l6.2 13 (by omega), q13]; rfl, by omega, by rw [l6.1 3 (by omega), q3, va_up_self]; rfl, ⟨0, by omega, by rw [l6.2 19 (by omega), q19]; rfl, fun s hs => by simp⟩, fun i hi => by omega, fun s hs hv => by cases hv⟩, fun i a b c => ?_, fun k hk => ?_, fun k hk => ?_⟩
    · rw [l6.1 i a, qi i a b]
    · rw [l6.1 3 (by omega), q3, va_up_ne _ _ (by omega)]
    · rw [l6.2 k (by omega), q0 k (by omega) (by omega) (by omega) (by omega)]
  obtain ⟨C2, vc, I2, g2, ⟨y0, y1, y3, y5, y6⟩, yf⟩ := cls
  obtain ⟨F2, vr, pr, tf2⟩ := ref
  have pc : PJc x S B L T C2 0 0 0 (fun _ => none) (fun _ => (0, fun _ => 0)) := by
    refine ⟨⟨I2, ?_, fun j' hj' => ?_, ⟨by rw [y3]; rfl, by omega⟩, by rw [y5]; rfl⟩, by rw [y6]; rfl, by omega, by omega, fun s hs => ⟨fun _ => ?_, fun d z => by cases z⟩, fun i hi => by omega⟩
    · unfold TKs
      rw [g2 403 (by decide) (by decide) (by decide) (by decide), g2 405 (by decide) (by decide) (by decide) (by decide), g2 407 (by decide) (by decide) (by decide) (by decide)]
      exact K1
    · unfold plc
      rw [g2 403 (by decide) (by decide) (by decide) (by decide), g2 406 (by decide) (by decide) (by decide) (by decide)]
      exact pl1 j' hj'
    · exact yf (s + 1) (by omega)
  have hT := K1.1.2
  have C02 : ∀ i, (i < 403 ∨ 412 < i ∨ i = 404) → C2 i = C i := fun i hi => by rw [g2 i (by omega) (by omega) (by omega) (by omega), f1 i (by omega) (by omega) (by omega) (by omega)]
  have lj := loopJ (t0 := 705 * tc) (by omega) jN C2 F2 0 0 0 0 _ _ pc pr (by unfold jN; omega)
  rw [vc, vr]
  unfold f_X4_read_b58 f_X12_readText_b43
  rcases lj with ⟨f, j2, C', F', hf, v2, hx, w3, R', tf, e8⟩ | ⟨V2, rws2, j2, n2, q2, w22, C', F', v2, w3, hc2, hr2, cf2, tf⟩
  · exact Or.inl ⟨f, j2, C', F', hf, v2, FX_e hx C02, w3, R', TF_t tf2 tf, e8⟩
  · exact Or.inr ⟨V2, rws2, j2, n2, q2, w22, C', F', v2, w3, hc2, hr2, fun i hi => by
      by_cases h4 : i = 404
      · rw [h4, cf2.1 404 (by omega)]; exact C02 404 (by omega)
      · rw [cf2.1 i (by omega)]; exact C02 i hi, ⟨by rw [cf2.2.1, y0], by rw [cf2.2.2, y1]⟩, TF_t tf2 tf⟩
end RJ
