section CM
variable {x m : Nat} {S S2 : jSt} {C F : Nat → Nat → Int} {B : Nat → Int} {L T n j t0 w q : Nat} {V : Nat → Option Den} {rws : Nat → Row}
theorem s_b65 (hF : RQ m S2 B L F j) (h12 : F 0 12 = (t0 : Int)) (ht : t0 ≤ 2115) (hn : n < 24) (sort : Nat) : ∃ Fc, f_X12_clause_b65 (m : Int) (sort : Int) (n : Int) (rS m S2 F) = fcallv (rS m S2 Fc) (m : Int) 12 (f_X12_body (m : Int) (sort : Int) ((t0 + 1 + 4 * n : Nat) : Int) (rS m S2 Fc)) (fun v13 S14 => if v13 = 0 then tailR (m : Int) S14 else some (v13, S14)) ∧ RQ m S2 B L Fc (j + 1) ∧ Fc 3 = va_up (F 3) (t0 + 1 + 4 * n) (sort : Int) ∧ (∀ i, i ≠ 0 → i ≠ 3 → Fc i = F i) ∧ Fc 0 14 = (sort : Int) ∧ ∀ k, (k < 7 ∨ (11 < k ∧ k ≠ 14)) → Fc 0 k = F 0 k := by
  obtain ⟨R, tp, t⟩ := hF
  have f0 : ∀ k', va_up F 0 (va_up (F 0) 14 (sort : Int)) 0 k' = if k' = 14 then (sort : Int) else F 0 k' := fun k' => up0 F 14 _ k'
  have fi : ∀ i, i ≠ 0 → va_up F 0 (va_up (F 0) 14 (sort : Int)) i = F i := fun i hi => va_up_ne _ _ hi
  have R1 : RI m S2 (va_up F 0 (va_up (F 0) 14 (sort : Int))) := RI_up0 R (by decide)
  have tp1 : TP (va_up F 0 (va_up (F 0) 14 (sort : Int))) B L := ⟨(fi 4 (by omega)).trans tp.1, by rw [f0, if_neg (by omega)]; exact tp.2.1, tp.2.2⟩
  have t1 : TokS (va_up F 0 (va_up (F 0) 14 (sort : Int))) B L (psn B L j) := TokS_fr t (fun i h1 h2 => by rw [f0, if_neg (by omega)])
  obtain ⟨F2, v2, r2, l2⟩ := RQ_next ⟨R1, tp1, t1⟩
  have R2 := r2.1
  unfold f_X12_clause_b65
  rw [r_p R, r_cv R1, v2, fcall_some, r_g R2, l2.2 12 (by omega), f0, if_neg (by omega), h12, flet_eq, w32_of (z := (t0 : Int) + 1) (by omega) (by omega), w32_of (z := 4 * (n : Int)) (by omega) (by omega), w32_of (by omega) (by omega), show (t0 : Int) + 1 + 4 * (n : Int) = ((t0 + 1 + 4 * n : Nat) : Int) by omega, r_tx R2, rt_3 R2 (by omega) (by omega), toNat_z]
  have e0 : va_up F2 3 (va_up (F2 3) (t0 + 1 + 4 * n) (sort : Int)) 0 = F2 0 := va_up_ne _ _ (by omega)
  refine ⟨va_up F2 3 (va_up (F2 3) (t0 + 1 + 4 * n) (sort : Int)), rfl, ⟨rV R2 (by omega) _, ⟨(va_up_ne _ _ (by omega)).trans r2.2.1.1, by rw [e0]; exact r2.2.1.2.1, r2.2.1.2.2⟩, TokS_fr r2.2.2 (fun i _ _ => by rw [e0])⟩, ?_, fun i a b => ?_, ?_, fun k hk => ?_⟩
  · rw [va_up_self, l2.1 3 (by omega), fi 3 (by omega)]
  · rw [va_up_ne _ _ b, l2.1 i a, fi i a]
  · rw [e0, l2.2 14 (by omega), f0, if_pos rfl]
  · rw [e0, l2.2 k (by omega), f0, if_neg (by omega)]
theorem c_b47 (hC : CQ x S B L T n C j) (h6 : C 408 6 = (q : Int)) (hn : n < 24) (hj : j < T) {k : Nat} (hk : k ≤ 11) : ∃ C1, f_X4_readClause_b47 ((x + 408 : Nat) : Int) (k : Int) (cS x S C) = (if 3 < (k : Int) then fcallv (cS x S C1) ((x + 408 : Nat) : Int) 4 (f_X4_readDeed ((x + 408 : Nat) : Int) (k : Int) (cS x S C1)) (fun v11 S12 => if v11 = 0 then f_X4_readClause_b118 S12 else f_X4_readClause_b109 ((x + 408 : Nat) : Int) S12) else fcallv (cS x S C1) ((x + 408 : Nat) : Int) 4 (f_X4_readLaw ((x + 408 : Nat) : Int) (k : Int) (cS x S C1)) (fun v17 S18 => if v17 = 0 then f_X4_readClause_b118 S18 else f_X4_readClause_b109 ((x + 408 : Nat) : Int) S18)) ∧ CQ x S B L T n C1 (j + 1) ∧ (∀ i, i ≠ 408 → i ≠ 409 → C1 i = C i) ∧ C1 409 = va_up (C 409) (4 * n) (k : Int) ∧ C1 408 6 = (q : Int) ∧ C1 408 0 = C 408 0 ∧ C1 408 1 = C 408 1 := by
  obtain ⟨I, K, hpl, ⟨h3, hjT⟩, h5⟩ := hC
  have hT := K.1.2
  unfold f_X4_readClause_b47
  have I1 : CI x S (va_up C 408 (va_up (C 408) 3 ((j + 1 : Nat) : Int))) := CI_up I rfl
  rw [cg_408 I, h5, if_pos (by omega), cg_408 I, h3, w32_of (by omega) (by omega), cp_408 I, zs, cr408_7 I1, cg_408 I1, va_up_self, va_up_ne _ _ (by decide), h5, w32_of (by omega) (by omega), st_409 I1 (by omega) (by omega), show ((n : Int) * 4).toNat = 4 * n by omega, va_up_ne _ _ (by decide)]
  have fr : ∀ i, i ≠ 408 → i ≠ 409 → va_up (va_up C 408 (va_up (C 408) 3 ((j + 1 : Nat) : Int))) 409 (va_up (C 409) (4 * n) (k : Int)) i = C i := fun i a b => by rw [va_up_ne _ _ b, va_up_ne _ _ a]
  have e8 : va_up (va_up C 408 (va_up (C 408) 3 ((j + 1 : Nat) : Int))) 409 (va_up (C 409) (4 * n) (k : Int)) 408 = va_up (C 408) 3 ((j + 1 : Nat) : Int) := by rw [va_up_ne _ _ (by decide), va_up_self]
  refine ⟨va_up (va_up C 408 (va_up (C 408) 3 ((j + 1 : Nat) : Int))) 409 (va_up (C 409) (4 * n) (k : Int)), rfl, ⟨CI_ar I1 (fun k => rfl), ?_, fun j' hj' => ?_, ⟨?_, by omega⟩, ?_⟩, fr, va_up_self _ _ _, ?_, ?_, ?_⟩
  · unfold TKs
    rw [fr 403 (by decide) (by decide), fr 405 (by decide) (by decide), fr 407 (by decide) (by decide)]
    exact K
  · unfold plc
    rw [fr 403 (by decide) (by decide), fr 406 (by decide) (by decide)]
    exact hpl j' hj'
  · rw [e8, va_up_self]
  · rw [e8, va_up_ne _ _ (by decide), h5]
  · rw [e8, va_up_ne _ _ (by decide), h6]
  · rw [e8, va_up_ne _ _ (by decide)]
  · rw [e8, va_up_ne _ _ (by decide)]
theorem FX_e {C1 C' : Nat → Nat → Int} {f : Nat} {p : Int} (h : FX x S C1 f p C') (h0 : ∀ i, (i < 403 ∨ 412 < i ∨ i = 404) → C1 i = C i) : FX x S C f p C' := ⟨h.1, fun i hi => (h.2.1 i hi).trans (h0 i hi), h.2.2⟩
theorem bit_or : ∀ o : Nat, o < 8 → ∀ s : Nat, s < 3 → ior32 (o : Int) (ishl32 1 (s : Int)) = ((o ||| 2 ^ s : Nat) : Int) ∧ (o ||| 2 ^ s) < 8 := by
  intro o ho s hs
  have h2 : 2 ^ s < 8 := by
    have : s = 0 ∨ s = 1 ∨ s = 2 := by omega
    rcases this with rfl | rfl | rfl <;> decide
  refine ⟨by rw [ishl_n (by omega), ior_n (by omega) (by omega)], ?_⟩
  exact Nat.or_lt_two_pow (n := 3) ho h2
theorem clauseJ (hc : PJc x S B L T C j n q V rws) (hr : PJr m S2 B L t0 F j n w V rws) (ht : t0 ≤ 2115) (h44 : tkB B L j ≠ 44) : CJR x m S S2 B L T t0 C F j n (f_X4_readClause ((x + 408 : Nat) : Int) (cS x S C)) (f_X12_clause (m : Int) (rS m S2 F)) := by
  obtain ⟨hC, h6, hq, hn24, hLw, hRc⟩ := hc
  obtain ⟨hF, h12, h13, hw, h3n, ⟨o, ho8, h19, hob⟩, hRr⟩ := hr
  have hjT : j < T := lt_T hC.2.1 h44
  have I := hC.1
  have R := hF.1
  unfold f_X4_readClause f_X12_clause
  rw [cv_408 I, CQ_knd hC h6, fcall_some, s_within, fcall_some, if_b01, r_cv R, s_sortOf hF, fcall_some]
  by_cases hk : 1 ≤ tkB B L j ∧ tkB B L j ≤ 11
  rotate_left
  · obtain ⟨C', v, hx⟩ := CQ_ref hC h6 1
    rw [if_neg (by omega), if_neg hk, if_neg (by decide), cv_408 I, show (1 : Int) = ((1 : Nat) : Int) from rfl, v, fcall_some]
    exact Or.inl ⟨1, j, C', F, by omega, rfl, hx, rfl, R, TF_r t0 F, hF.2.2.1.2.1⟩
  obtain ⟨sb1, sb2, sb3⟩ := srt_b hk
  rw [if_pos (by omega), if_pos hk, if_pos (show (0 : Int) ≤ (srt (tkB B L j) : Int) by omega)]
  have full : n = 24 → CJR x m S S2 B L T t0 C F j n (f_X4_readClause_b47 ((x + 408 : Nat) : Int) (tkB B L j : Int) (cS x S C)) (f_X12_clause_b29 (m : Int) (srt (tkB B L j) : Int) (rS m S2 F)) := fun e24 => by
    obtain ⟨C', v, hx⟩ := CQ_ref hC h6 6
    unfold f_X4_readClause_b47 f_X12_clause_b29
    rw [cg_408 I, hC.2.2.2.2, if_neg (by omega), cv_408 I, show (6 : Int) = ((6 : Nat) : Int) from rfl, v, fcall_some, r_tx R, r_g R, h12, ra_3 R (by omega) (by omega), toNat_z, h3n, if_pos (by omega)]
    exact Or.inl ⟨6, j, C', F, by omega, rfl, hx, rfl, R, TF_r t0 F, hF.2.2.1.2.1⟩
  by_cases k3 : tkB B L j ≤ 3
  · -- a law
    obtain ⟨law, hlaw⟩ : ∃ law, tkB B L j = law + 1 := ⟨tkB B L j - 1, by omega⟩
    have es : srt (tkB B L j) = law := by rw [sb3 k3, hlaw]; omega
    have hl3 : law < 3 := by omega
    rw [if_neg (show ¬ (3 : Int) < (tkB B L j : Int) by omega), if_neg (show ¬ (2 : Int) < (srt (tkB B L j) : Int) by omega), cr408_10 I, al_412 I (by omega) (by omega), cr408_9 I, al_411 I (by omega) (by omega), show ((tkB B L j : Nat) : Int).toNat = law + 1 by omega, r_g R, h19, es, s_has (by omega) (by omega), fcall_some, if_b01, hob law hl3]
    cases hV : V law with
    | some d =>
      obtain ⟨a, b, e1, e2, e3, e4, _⟩ := (hLw law hl3).2 d hV
      obtain ⟨C', v, hx⟩ := CQ_ref hC h6 4
      rw [e1, e2, if_neg (by omega), cv_408 I, show (4 : Int) = ((4 : Nat) : Int) from rfl, v, fcall_some, if_pos (show (some d).isSome = true from rfl)]
      exact Or.inl ⟨4, j, C', F, by omega, rfl, hx, rfl, R, TF_r t0 F, hF.2.2.1.2.1⟩
    | none =>
      obtain ⟨e1, e2⟩ := (hLw law hl3).1 hV
      rw [e1, e2, if_pos (by omega), if_neg (by simp)]
      by_cases e24 : n = 24
      · rw [← es]; exact full e24
      have hn : n < 24 := by omega
      obtain ⟨C1, v1, c1, fr1, e91, h61, z10, z11⟩ := c_b47 hC h6 hn hjT (k := tkB B L j) (by omega)
      rw [v1, if_neg (by omega)]
      unfold f_X12_clause_b29
      obtain ⟨bo1, bo2⟩ := bit_or o ho8 law hl3
      have R0 : RI m S2 (va_up F 0 (va_up (F 0) 19 ((o ||| 2 ^ law : Nat) : Int))) := RI_up0 R (by decide)
      have g0 : ∀ k', va_up F 0 (va_up (F 0) 19 ((o ||| 2 ^ law : Nat) : Int)) 0 k' = if k' = 19 then ((o ||| 2 ^ law : Nat) : Int) else F 0 k' := fun k' => up0 F 19 _ k'
      have gi : ∀ i, i ≠ 0 → va_up F 0 (va_up (F 0) 19 ((o ||| 2 ^ law : Nat) : Int)) i = F i := fun i hi => va_up_ne _ _ hi
      have hF0 : RQ m S2 B L (va_up F 0 (va_up (F 0) 19 ((o ||| 2 ^ law : Nat) : Int))) j := ⟨R0, ⟨(gi 4 (by omega)).trans hF.2.1.1, by rw [g0, if_neg (by omega)]; exact hF.2.1.2.1, hF.2.1.2.2⟩, TokS_fr hF.2.2 (fun i h1 h2 => by rw [g0, if_neg (by omega)])⟩
      rw [r_tx R, r_g R, h12, ra_3 R (by omega) (by omega), toNat_z, h3n, if_neg (by omega), if_neg (by omega), r_g R, h19, bo1, r_p R]
      obtain ⟨Fc, vc, rc, ec3, eci, ec14, ec0⟩ := s_b65 hF0 (t0 := t0) (by rw [g0, if_neg (by omega)]; exact h12) ht hn law
      generalize va_up F 0 (va_up (F 0) 19 ((o ||| 2 ^ law : Nat) : Int)) = F0 at *
      rw [vc, r_cv rc.1, cv_408 c1.1]
      have eb : f_X12_body (m : Int) (law : Int) ((t0 + 1 + 4 * n : Nat) : Int) (rS m S2 Fc) = f_X12_lawClause (m : Int) ((t0 + 1 + 4 * n : Nat) : Int) (rS m S2 Fc) := by
        unfold f_X12_body f_X12_body_b89 f_X12_body_b112
        rw [if_neg (by omega), if_neg (by omega), if_neg (by omega), if_neg (by omega), if_neg (by omega), if_neg (by omega), if_neg (by omega), if_neg (by omega), if_neg (by omega), r_cv rc.1, f_id]
      rw [eb, hlaw]
      rcases lawJ (x := x) (S := S) (T := T) (n := n) (X := t0 + 1 + 4 * n) (w := w) (q := q) c1 h61 (by omega) hn hl3 rc ht rfl (by rw [ec0 12 (by omega), g0, if_neg (by omega), h12]) (by rw [ec0 13 (by omega), g0, if_neg (by omega), h13]) (by omega) ec14 with ⟨f, j', C', F', hf, v, hx, w2, R', rf, e8⟩ | ⟨d, j', q', w', C2, F2, v, c2, lcf, h62, hq2, hc2, sg, bd, e411, e412, w2, r2, h132, hw2, ex1, ex2, hcx, lrf, hjj⟩
      · rw [v, w2, fcall_some, fcall_some, if_pos rfl, if_neg (by omega)]
        refine Or.inl ⟨f, j', C', F', hf, rfl, FX_e hx (fun i hi => fr1 i (by omega) (by omega)), rfl, R', ⟨fun i a b c => ?_, fun k' hk' => ?_, fun k' hk' => ?_⟩, e8⟩
        · rw [rf.1 i a b c, eci i a b, gi i a]
        · rw [rf.2.1 k' (by omega) (by omega) (by omega), ec3, va_up_ne _ _ (by omega), gi 3 (by omega)]
        · rw [rf.2.2 k' (by omega), ec0 k' (by omega), g0, if_neg (by omega)]
      · rw [v, w2, fcall_some, fcall_some, if_neg (by decide), if_pos rfl]
        have x12 : F2 0 12 = (t0 : Int) := by rw [lrf.2.2 12 (by omega), ec0 12 (by omega), g0, if_neg (by omega), h12]
        have x3n : F2 3 t0 = (n : Int) := by rw [lrf.2.1 t0 (by omega) (by omega) (by omega), ec3, va_up_ne _ _ (by omega), gi 3 (by omega), h3n]
        rcases semiJ c2 h62 hn r2 ht x12 x3n with ⟨C', F', v3, hx, w3, R3, tf3, e8⟩ | ⟨C3, F3, v3, c3, fr3, ⟨z30, z31⟩, h63, w3, r3, e33, fi3, f03⟩
        · rw [v3, w3]
          refine Or.inl ⟨1, j', C', F', by omega, rfl, FX_e hx (fun i hi => by rw [lcf.1 i (by omega) (by omega) (by omega) (by omega), fr1 i (by omega) (by omega)]), rfl, R3, TF_t ⟨fun i a b c => ?_, fun k' hk' => ?_, fun k' hk' => ?_⟩ tf3, e8⟩
          · rw [lrf.1 i a b c, eci i a b, gi i a]
          · rw [lrf.2.1 k' (by omega) (by omega) (by omega), ec3, va_up_ne _ _ (by omega), gi 3 (by omega)]
          · rw [lrf.2.2 k' (by omega), ec0 k' (by omega), g0, if_neg (by omega)]
        · rw [v3, w3]
          have Ce : ∀ i, i ≠ 408 → i ≠ 409 → i ≠ 410 → i ≠ 411 → i ≠ 412 → C3 i = C i := fun i a b c d e => by rw [fr3 i a, lcf.1 i a c d e, fr1 i a b]
          have C9 : C3 409 = va_up (C 409) (4 * n) ((law + 1 : Nat) : Int) := by rw [fr3 409 (by decide), lcf.1 409 (by decide) (by decide) (by decide) (by decide), e91, hlaw]
          have C10 : ∀ i, i < q → C3 410 i = C 410 i := fun i hi => by rw [fr3 410 (by decide), hc2 i hi, fr1 410 (by decide) (by decide)]
          have C11 : C3 411 = va_up (C 411) (law + 1) (q : Int) := by rw [fr3 411 (by decide), e411, fr1 411 (by decide) (by decide)]
          have C12 : C3 412 = va_up (C 412) (law + 1) (q' : Int) := by rw [fr3 412 (by decide), e412, fr1 412 (by decide) (by decide)]
          have F3e : ∀ k', k' ≠ t0 → k' ≠ t0 + 1 + 4 * n → k' ≠ t0 + 1 + 4 * n + 1 → k' ≠ t0 + 1 + 4 * n + 2 → (k' < t0 + 97 + 2 * w ∨ t0 + 705 ≤ k') → F3 3 k' = F 3 k' := fun k' a b c d e => by rw [e33, va_up_ne _ _ a, lrf.2.1 k' c d e, ec3, va_up_ne _ _ b, gi 3 (by omega)]
          refine Or.inr ⟨fun s => if s = law then some d else V s, fun i => if i = n then (law + 1, fun _ => 0) else rws i, j' + 1, q', w', C3, F3, rfl, rfl, ⟨c3, h63, by omega, by omega, fun s hs => ?_, fun i hi => ?_⟩, ⟨r3, ?_, ?_, by omega, by rw [e33, va_up_self], ⟨o ||| 2 ^ law, bo2, ?_, fun s hs => ?_⟩, fun i hi => ?_, fun s hs hv => ?_⟩, by omega, ⟨fun i hi => ?_, by rw [z30, lcf.2 0 (by decide) (by decide) (by decide), z10], by rw [z31, lcf.2 1 (by decide) (by decide) (by decide), z11]⟩, ⟨fun i a b c => ?_, fun k' hk' => ?_, fun k' hk' => ?_⟩⟩
          · show (((if s = law then some d else V s) = none → _) ∧ ∀ d', (if s = law then some d else V s) = some d' → _)
            by_cases e : s = law
            · rw [if_pos e]
              refine ⟨fun z => (by cases z), fun d' z => ?_⟩
              injection z with z
              subst z; subst e
              refine ⟨q, q', by rw [C11, va_up_self], by rw [C12, va_up_self], hq2.1, Nat.le_refl _, ?_, bd⟩
              rw [fr3 410 (by decide)]
              exact sg
            · rw [if_neg e]
              refine ⟨fun z => ?_, fun d' z => ?_⟩
              · rw [C11, C12, va_up_ne _ _ (by omega), va_up_ne _ _ (by omega)]
                exact (hLw s hs).1 z
              · obtain ⟨a, b, y1, y2, y3, y4, y5, y6⟩ := (hLw s hs).2 d' z
                exact ⟨a, b, by rw [C11, va_up_ne _ _ (by omega), y1], by rw [C12, va_up_ne _ _ (by omega), y2], y3, by omega, Seg_c y5 (fun i h1 h2 => C10 i (by omega)), y6⟩
          · rw [C9]
            by_cases e : i = n
            · subst e
              simp only [if_pos]
              refine ⟨by omega, va_up_self _ _ _, fun c h1 h2 => ?_, fun z => by omega⟩
              exfalso
              have : ncl (law + 1) = 0 := by unfold ncl; rw [if_pos (by omega)]
              omega
            · simp only [if_neg e]
              obtain ⟨y1, y2, y3, y4⟩ := hRc i (by omega)
              have nb : ncl (rws i).1 ≤ 3 := by unfold ncl; (repeat' split) <;> omega
              exact ⟨y1, by rw [va_up_ne _ _ (by omega), y2], fun c h1 h2 => by rw [va_up_ne _ _ (by omega), y3 c h1 h2], y4⟩
          · rw [f03 12 (by omega), x12]
          · rw [f03 13 (by omega), h132]
          · rw [f03 19 (by omega), lrf.2.2 19 (by omega), ec0 19 (by omega), g0, if_pos rfl]
          · show _ = (if s = law then some d else V s).isSome
            rw [Nat.testBit_or, hob s hs, Nat.testBit_two_pow]
            by_cases e : s = law
            · subst e; simp
            · rw [if_neg e, decide_eq_false (fun z => e z.symm), Bool.or_false]
          · show _ ∧ _ ∧ _
            by_cases e : i = n
            · subst e
              simp only [if_pos]
              refine ⟨?_, fun c h1 h2 => ?_, fun _ => ⟨d, w, w', ?_, ?_, ?_, hw2.1, Nat.le_refl _, ?_⟩⟩
              · rw [e33, va_up_ne _ _ (by omega), lrf.2.1 _ (by omega) (by omega) (by omega), ec3, va_up_self, ← hlaw, es]
              · exfalso
                have : ncl (law + 1) = 0 := by unfold ncl; rw [if_pos (by omega)]
                omega
              · show (if law + 1 - 1 = law then some d else V (law + 1 - 1)) = some d
                rw [if_pos (by omega)]
              · rw [e33, va_up_ne _ _ (by omega), ex1]
              · rw [e33, va_up_ne _ _ (by omega), ex2]
              · rw [e33, cex_c (f := F2 3) (w' - w) (fun k' k1 k2 => va_up_ne _ _ (by omega))]
                exact hcx
            · simp only [if_neg e]
              obtain ⟨y1, y2, y3⟩ := hRr.1 i (by omega)
              have nb : ncl (rws i).1 ≤ 3 := by unfold ncl; (repeat' split) <;> omega
              refine ⟨by rw [F3e _ (by omega) (by omega) (by omega) (by omega) (by omega), y1], fun c h1 h2 => by rw [F3e _ (by omega) (by omega) (by omega) (by omega) (by omega), y2 c h1 h2], fun z => ?_⟩
              obtain ⟨d', a, b, z1, z2, z3, z4, z5, z6⟩ := y3 z
              refine ⟨d', a, b, ?_, by rw [F3e _ (by omega) (by omega) (by omega) (by omega) (by omega), z2], by rw [F3e _ (by omega) (by omega) (by omega) (by omega) (by omega), z3], z4, by omega, ?_⟩
              · show (if (rws i).1 - 1 = law then some d else V ((rws i).1 - 1)) = some d'
                rw [if_neg (fun z => by rw [z, hV] at z1; cases z1)]
                exact z1
              · rw [cex_c (f := F 3) (b - a) (fun k' k1 k2 => F3e k' (by omega) (by omega) (by omega) (by omega) (by omega))]
                exact z6
          · have hv' : (if s = law then some d else V s).isSome = true := hv
            by_cases e : s = law
            · exact ⟨n, by omega, by show (if n = n then (law + 1, fun _ => (0 : Int)) else rws n).1 = s + 1; rw [if_pos rfl, e]⟩
            · rw [if_neg e] at hv'
              obtain ⟨i, hi, hi2⟩ := hRr.2 s hs hv'
              exact ⟨i, by omega, by show (if i = n then (law + 1, fun _ => (0 : Int)) else rws i).1 = s + 1; rw [if_neg (by omega)]; exact hi2⟩
          · by_cases h1 : i < 408 ∨ 412 < i
            · exact Ce i (by omega) (by omega) (by omega) (by omega) (by omega)
            · omega
          · rw [fi3 i a b, lrf.1 i a b c, eci i a b, gi i a]
          · exact F3e k' (by omega) (by omega) (by omega) (by omega) (by omega)
          · rw [f03 k' (by omega), lrf.2.2 k' (by omega), ec0 k' (by omega), g0, if_neg (by omega)]
  · -- a deed
    rw [if_pos (show (3 : Int) < (tkB B L j : Int) by omega), if_pos (show (2 : Int) < (srt (tkB B L j) : Int) by omega)]
    by_cases e24 : n = 24
    · exact full e24
    have hn : n < 24 := by omega
    obtain ⟨C1, v1, c1, fr1, e91, h61, z10, z11⟩ := c_b47 hC h6 hn hjT (k := tkB B L j) (by omega)
    obtain ⟨Fc, vc, rc, ec3, eci, ec14, ec0⟩ := s_b65 hF h12 ht hn (srt (tkB B L j))
    unfold f_X12_clause_b29
    rw [v1, if_pos (by omega), cv_408 c1.1, r_tx R, r_g R, h12, ra_3 R (by omega) (by omega), toNat_z, h3n, if_neg (by omega), if_pos (by omega), vc, r_cv rc.1]
    rcases deedJ (X := t0 + 1 + 4 * n) (q := q) c1 h61 hn rc (by omega) (k := tkB B L j) (by omega) with ⟨f, j', C', F', hf, v, hx, w2, R', rf, e8⟩ | ⟨vv, j', C2, F2, v, c2, cfr, e92, h11, w2, r2, rf, ex, hjj⟩
    · rw [v, w2, fcall_some, fcall_some, if_pos rfl, if_neg (by omega)]
      refine Or.inl ⟨f, j', C', F', hf, rfl, FX_e hx (fun i hi => fr1 i (by omega) (by omega)), rfl, R', ⟨fun i a b c => ?_, fun k' hk' => ?_, fun k' hk' => ?_⟩, e8⟩
      · rw [rf.1 i a b, eci i a b]
      · rw [rf.2.2 k' (by omega), ec3, va_up_ne _ _ (by omega)]
      · rw [rf.2.1 k' (by omega), ec0 k' (by omega)]
    · rw [v, w2, fcall_some, fcall_some, if_neg (by decide), if_pos rfl]
      have x12 : F2 0 12 = (t0 : Int) := by rw [rf.2.1 12 (by omega), ec0 12 (by omega), h12]
      have x3n : F2 3 t0 = (n : Int) := by rw [rf.2.2 t0 (by omega), ec3, va_up_ne _ _ (by omega), h3n]
      have h62 : C2 408 6 = (q : Int) := by rw [cfr.2.1 6 (by decide), h61]
      rcases semiJ c2 h62 hn r2 ht x12 x3n with ⟨C', F', v3, hx, w3, R3, tf3, e8⟩ | ⟨C3, F3, v3, c3, fr3, ⟨z30, z31⟩, h63, w3, r3, e33, fi3, f03⟩
      · rw [v3, w3]
        refine Or.inl ⟨1, j', C', F', by omega, rfl, FX_e hx (fun i hi => by rw [cfr.1 i (by omega) (by omega), fr1 i (by omega) (by omega)]), rfl, R3, TF_t ⟨fun i a b c => ?_, fun k' hk' => ?_, fun k' hk' => ?_⟩ tf3, e8⟩
        · rw [rf.1 i a b, eci i a b]
        · rw [rf.2.2 k' (by omega), ec3, va_up_ne _ _ (by omega)]
        · rw [rf.2.1 k' (by omega), ec0 k' (by omega)]
      · rw [v3, w3]
        have Ce : ∀ i, i ≠ 408 → i ≠ 409 → C3 i = C i := fun i a b => by rw [fr3 i a, cfr.1 i a b, fr1 i a b]
        have C9 : ∀ k', k' < 4 * n → C3 409 k' = C 409 k' := fun k' h => by rw [fr3 409 (by decide), cfr.2.2 k' (by omega), e91, va_up_ne _ _ (by omega)]
        have C9n : C3 409 (4 * n) = (tkB B L j : Int) := by rw [fr3 409 (by decide), cfr.2.2 (4 * n) (by omega), e91, va_up_self]
        have F3e : ∀ k', k' ≠ t0 → (k' < t0 + 1 + 4 * n ∨ t0 + 1 + 4 * n + 4 ≤ k') → F3 3 k' = F 3 k' := fun k' a b => by rw [e33, va_up_ne _ _ a, rf.2.2 k' (by omega), ec3, va_up_ne _ _ (by omega)]
        refine Or.inr ⟨V, fun i => if i = n then (tkB B L j, vv) else rws i, j' + 1, q, w, C3, F3, rfl, rfl, ⟨c3, h63, by omega, by omega, ?_, fun i hi => ?_⟩, ⟨r3, ?_, ?_, by omega, by rw [e33, va_up_self], ⟨o, ho8, ?_, hob⟩, fun i hi => ?_, fun s hs hv => ?_⟩, by omega, ⟨fun i hi => ?_, by rw [z30, cfr.2.1 0 (by decide), z10], by rw [z31, cfr.2.1 1 (by decide), z11]⟩, ⟨fun i a b c => ?_, fun k' hk' => ?_, fun k' hk' => ?_⟩⟩
        · unfold LawC
          rw [Ce 410 (by decide) (by decide), Ce 411 (by decide) (by decide), Ce 412 (by decide) (by decide)]
          exact hLw
        · by_cases e : i = n
          · subst e
            simp only [if_pos]
            exact ⟨by omega, C9n, fun c h1 h2 => by rw [fr3 409 (by decide)]; exact e92 c h1 h2, h11⟩
          · simp only [if_neg e]
            obtain ⟨y1, y2, y3, y4⟩ := hRc i (by omega)
            have nb : ncl (rws i).1 ≤ 3 := by unfold ncl; (repeat' split) <;> omega
            exact ⟨y1, by rw [C9 _ (by omega), y2], fun c h1 h2 => by rw [C9 _ (by omega), y3 c h1 h2], y4⟩
        · rw [f03 12 (by omega), x12]
        · rw [f03 13 (by omega), rf.2.1 13 (by omega), ec0 13 (by omega), h13]
        · rw [f03 19 (by omega), rf.2.1 19 (by omega), ec0 19 (by omega), h19]
        · by_cases e : i = n
          · subst e
            simp only [if_pos]
            have nb : ncl (tkB B L j) ≤ 3 := by unfold ncl; (repeat' split) <;> omega
            refine ⟨?_, fun c h1 h2 => ?_, fun z => by omega⟩
            · rw [e33, va_up_ne _ _ (by omega), rf.2.2 _ (by omega), ec3, va_up_self]
            · rw [e33, va_up_ne _ _ (by omega), ex c h1 h2]
          · simp only [if_neg e]
            obtain ⟨y1, y2, y3⟩ := hRr.1 i (by omega)
            have nb : ncl (rws i).1 ≤ 3 := by unfold ncl; (repeat' split) <;> omega
            refine ⟨by rw [F3e _ (by omega) (by omega), y1], fun c h1 h2 => by rw [F3e _ (by omega) (by omega), y2 c h1 h2], fun z => ?_⟩
            obtain ⟨d', a, b, z1, z2, z3, z4, z5, z6⟩ := y3 z
            refine ⟨d', a, b, z1, by rw [F3e _ (by omega) (by omega), z2], by rw [F3e _ (by omega) (by omega), z3], z4, z5, ?_⟩
            rw [cex_c (f := F 3) (b - a) (fun k' k1 k2 => F3e k' (by omega) (by omega))]
            exact z6
        · obtain ⟨i, hi, hi2⟩ := hRr.2 s hs hv
          exact ⟨i, by omega, by show (if i = n then (tkB B L j, vv) else rws i).1 = s + 1; rw [if_neg (by omega)]; exact hi2⟩
        · exact Ce i (by omega) (by omega)
        · rw [fi3 i a b, rf.1 i a b, eci i a b]
        · exact F3e k' (by omega) (by omega)
        · rw [f03 k' (by omega), rf.2.1 k' (by omega), ec0 k' (by omega)]
end CM
