-- a law, on both sides
def LCf (C C' : Nat → Nat → Int) : Prop := (∀ i, i ≠ 408 → i ≠ 410 → i ≠ 411 → i ≠ 412 → C' i = C i) ∧ ∀ k, k ≠ 3 → k ≠ 4 → k ≠ 6 → C' 408 k = C 408 k
def LRf (t0 w X : Nat) (F F' : Nat → Nat → Int) : Prop := (∀ i, i ≠ 0 → i ≠ 3 → i ≠ 5 → F' i = F i) ∧ (∀ k, k ≠ X + 1 → k ≠ X + 2 → (k < t0 + 97 + 2 * w ∨ t0 + 705 ≤ k) → F' 3 k = F 3 k) ∧ ∀ k, (k < 7 ∨ k = 12 ∨ k = 14 ∨ k = 15 ∨ 18 < k) → F' 0 k = F 0 k
def LJR (x m : Nat) (S S2 : jSt) (B : Nat → Int) (L T n t0 w X law q : Nat) (C F : Nat → Nat → Int) (j : Nat) (o1 o2 : Option (Int × jSt)) : Prop :=
  (∃ f j' C' F', (1 ≤ f ∧ f ≤ 6) ∧ o1 = some (0, cS x S C') ∧ FX x S C f (psn B L j' : Nat) C' ∧ o2 = some ((f : Int), rS m S2 F') ∧ RI m S2 F' ∧ LRf t0 w X F F' ∧ F' 0 8 = (psn B L j' : Int)) ∨
  (∃ (d : Den) (j' q' w' : Nat) (C' F' : Nat → Nat → Int), o1 = some (1, cS x S C') ∧ CQ x S B L T n C' j' ∧ LCf C C' ∧ C' 408 6 = (q' : Int) ∧ (q < q' ∧ q' ≤ q + (j' - j)) ∧ (∀ i, i < q → C' 410 i = C 410 i) ∧ Seg (C' 410) q q' d 43 ∧ Bd d ∧ C' 411 = va_up (C 411) (law + 1) (q : Int) ∧ C' 412 = va_up (C 412) (law + 1) (q' : Int) ∧ o2 = some (0, rS m S2 F') ∧ RQ m S2 B L F' j' ∧ F' 0 13 = (w' : Int) ∧ (w ≤ w' ∧ w' ≤ j') ∧ F' 3 (X + 1) = (w : Int) ∧ F' 3 (X + 2) = (w' : Int) ∧ cex (F' 3) (t0 + 97 + 2 * w) (lmt law) (w' - w) = some ([d], []) ∧ LRf t0 w X F F' ∧ j < j')
theorem Seg_lt {c : Nat → Int} {q q' : Nat} {d : Den} {h : Nat} (s : Seg c q q' d h) (hh : h ≤ 64) : q < q' := by
  rcases Nat.lt_or_ge q q' with h1 | h1
  · exact h1
  · exfalso
    have e : q = q' := by have := s.1.1; omega
    subst e
    obtain ⟨n, hn⟩ := s.2 (fun _ => 0) (fun _ => 0) ⟨fun _ => by show (-1000000 : Int) ≤ 0 ∧ (0 : Int) ≤ 1000000; omega, fun _ => by show (-1000000 : Int) ≤ 0 ∧ (0 : Int) ≤ 1000000; omega⟩ [] (by simpa using hh)
    cases n with
    | zero => rw [vex] at hn; cases hn
    | succ n =>
      rw [vex, if_pos rfl] at hn
      injection hn with hn
      cases hn
section LJ
variable {x m : Nat} {S S2 : jSt} {C F : Nat → Nat → Int} {B : Nat → Int} {L T n j t0 w X law q : Nat}
theorem Rn_fin {tk : Nat → Nat} {tv : Nat → Int} {d : Den} {j j' : Nat} (na : noAr (tk j')) (hT : j' ≤ T) (so : SOop tk tv law T 0 j (6 * 0 + 3) 4 5 d j') : Rn tk tv law T (j, ([], []), [], 0, false) (.ok (j', ([d], []), [], 0, true)) := by
  obtain ⟨s', Q, hQ, hE, hR⟩ := so ([], []) [] (by simp) ⟨show rk 99 ≤ 4 by decide, show (99 : Nat) ≠ 41 by decide⟩
  refine hR _ ?_
  have eo : opn (Q ++ []) = 0 := by rw [opn_app Q [] (fun p hp => by have := hQ p hp; omega)]; rfl
  refine Rn_ok ?_ hT
  rw [pst_t]
  unfold beh
  have eb : btw (tk j') (Q ++ []) = 0 := by
    unfold btw
    rw [if_neg na.1, if_neg na.2.1, if_neg na.2.2.1, if_neg na.2.2.2, eo, if_pos (by decide)]
  have ep : prt (opn (Q ++ [])) (tk j') (Q ++ []) = 99 := by
    rw [eo]
    rfl
  rw [eb, if_neg (fun z => z rfl), if_pos ep, eo, if_neg (fun z => z rfl), stl_app 1 (P := []) (show rk 99 < 1 by decide) Q (fun p hp => by have := hQ p hp; omega) hE]
theorem lawJ (hC : CQ x S B L T n C j) (h6 : C 408 6 = (q : Int)) (hq : q ≤ j) (hn : n < 24) (hlaw : law < 3) (hF : RQ m S2 B L F j) (ht : t0 ≤ 2115) (hX : X = t0 + 1 + 4 * n) (h12 : F 0 12 = (t0 : Int)) (h13 : F 0 13 = (w : Int)) (hw : w ≤ j) (h14 : F 0 14 = (law : Int)) : LJR x m S S2 B L T n t0 w X law q C F j (f_X4_readLaw ((x + 408 : Nat) : Int) ((law + 1 : Nat) : Int) (cS x S C)) (f_X12_lawClause (m : Int) (X : Int) (rS m S2 F)) := by
  obtain ⟨I, K, hpl, ⟨h3, hjT⟩, h5⟩ := hC
  obtain ⟨R, tp, t⟩ := hF
  have hT := K.1.2
  unfold f_X4_readLaw f_X12_lawClause
  have I0 : CI x S (va_up C 408 (va_up (C 408) 4 ((law + 1 : Nat) : Int))) := CI_up I rfl
  rw [cp_408 I, cr408_9 I0, cg_408 I0, va_up_self, va_up_ne _ _ (by decide), h6, st_411 I0 (by omega) (by omega), toNat_z, va_up_ne _ _ (by decide)]
  have I1 : CI x S (va_up (va_up C 408 (va_up (C 408) 4 ((law + 1 : Nat) : Int))) 411 (va_up (C 411) (law + 1) (q : Int))) := CI_ar I0 (fun k => rfl)
  have fr1 : ∀ i, i ≠ 408 → i ≠ 411 → va_up (va_up C 408 (va_up (C 408) 4 ((law + 1 : Nat) : Int))) 411 (va_up (C 411) (law + 1) (q : Int)) i = C i := fun i a b => by rw [va_up_ne _ _ b, va_up_ne _ _ a]
  have e11 : va_up (va_up C 408 (va_up (C 408) 4 ((law + 1 : Nat) : Int))) 411 (va_up (C 411) (law + 1) (q : Int)) 411 = va_up (C 411) (law + 1) (q : Int) := va_up_self _ _ _
  have e08 : va_up (va_up C 408 (va_up (C 408) 4 ((law + 1 : Nat) : Int))) 411 (va_up (C 411) (law + 1) (q : Int)) 408 = va_up (C 408) 4 ((law + 1 : Nat) : Int) := by rw [va_up_ne _ _ (by decide), va_up_self]
  generalize va_up (va_up C 408 (va_up (C 408) 4 ((law + 1 : Nat) : Int))) 411 (va_up (C 411) (law + 1) (q : Int)) = C1 at *
  have K1 : TKs C1 T (tkB B L) (tvB B L) := by
    unfold TKs
    rw [fr1 403 (by decide) (by decide), fr1 405 (by decide) (by decide), fr1 407 (by decide) (by decide)]
    exact K
  have hpl1 : ∀ j, j ≤ T → plc C1 j = (psn B L j : Int) := fun j' hj' => by
    unfold plc
    rw [fr1 403 (by decide) (by decide), fr1 406 (by decide) (by decide)]
    exact hpl j' hj'
  have r3 : C1 408 3 = (j : Int) := by rw [e08, va_up_ne _ _ (by decide), h3]
  have r6 : C1 408 6 = (q : Int) := by rw [e08, va_up_ne _ _ (by decide), h6]
  have e := rd_id r3 r6
  have sm := (grpR (law := law) I1 K1 (by rw [e08, va_up_self]; omega) 100 0 (by omega)).2.2.2.2.2.2 (by omega) j q (C1 410) hq hjT
  rw [e] at sm
  have R1 : RI m S2 (va_up F 3 (va_up (F 3) (X + 1) (w : Int))) := rV R (by omega) _
  have g0 : va_up F 3 (va_up (F 3) (X + 1) (w : Int)) 0 = F 0 := va_up_ne _ _ (by omega)
  have g3 : va_up F 3 (va_up (F 3) (X + 1) (w : Int)) 3 = va_up (F 3) (X + 1) (w : Int) := va_up_self _ _ _
  have gf : ∀ i, i ≠ 3 → va_up F 3 (va_up (F 3) (X + 1) (w : Int)) i = F i := fun i hi => va_up_ne _ _ hi
  have tp1 : TP (va_up F 3 (va_up (F 3) (X + 1) (w : Int))) B L := ⟨(gf 4 (by omega)).trans tp.1, by rw [g0]; exact tp.2.1, tp.2.2⟩
  have t1 : TokS (va_up F 3 (va_up (F 3) (X + 1) (w : Int))) B L (psn B L j) := TokS_fr t (fun i _ _ => by rw [g0])
  have jl : j ≤ 300 := by omega
  rw [r_tx R, r_g R, h13, show (1 : Int) = ((1 : Nat) : Int) from rfl, w32X (by omega) (by omega), rt_3 R (by omega) (by omega), toNat_z]
  generalize va_up F 3 (va_up (F 3) (X + 1) (w : Int)) = F1 at *
  have fin : ∀ (F2 : Nat → Nat → Int) (z : Int), RI m S2 F2 → F2 0 13 = z → (fgetr (rS m S2 F2) (m : Int) 12 2 (fun v6 => fget (rS m S2 F2) (m : Int) 12 13 (fun v7 => fast (rS m S2 F2) v6 (w32 ((X : Int) + 2)) 1 v7 (fun S8 => some ((0 : Int), S8))))) = some (0, rS m S2 (va_up F2 3 (va_up (F2 3) (X + 2) z))) := fun F2 z R2 hz => by
    rw [r_tx R2, r_g R2, hz, show (2 : Int) = ((2 : Nat) : Int) from rfl, w32X (by omega) (by omega), rt_3 R2 (by omega) (by omega), toNat_z]
  have finf : ∀ (F2 : Nat → Nat → Int) (f : Int), RI m S2 F2 → (fgetr (rS m S2 F2) (m : Int) 12 2 (fun v6 => fget (rS m S2 F2) (m : Int) 12 13 (fun v7 => fast (rS m S2 F2) v6 (w32 ((X : Int) + 2)) 1 v7 (fun S8 => some (f, S8))))) = some (f, rS m S2 (va_up F2 3 (va_up (F2 3) (X + 2) (F2 0 13)))) := fun F2 f R2 => by
    rw [r_tx R2, r_g R2, show (2 : Int) = ((2 : Nat) : Int) from rfl, w32X (by omega) (by omega), rt_3 R2 (by omega) (by omega), toNat_z]
  have lrf : ∀ (F2 : Nat → Nat → Int) (z : Int), PF t0 w F1 F2 → LRf t0 w X F (va_up F2 3 (va_up (F2 3) (X + 2) z)) := fun F2 z pf => by
    refine ⟨fun i a b c => ?_, fun k a b c => ?_, fun k hk => ?_⟩
    · rw [va_up_ne _ _ b, pf.1 i a b c, gf i b]
    · rw [va_up_self, va_up_ne _ _ b, pf.2.1 k c, g3, va_up_ne _ _ a]
    · rw [va_up_ne _ _ (by omega), pf.2.2 k hk, g0]
  rcases sm with ⟨f, j', C', v, hf, hj', hfr, se⟩ | ⟨d, j', q', c', v, hj', hq', hc', sg, bd, na, so⟩
  · have rn := se ([], []) [] (by simp) ⟨⟨show rk 99 ≤ 4 by decide, show (99 : Nat) ≠ 41 by decide⟩, fun _ => rfl⟩
    have ss := s_summed R1 tp1 t1 ht (by rw [g0]; exact h12) (by rw [g0]; exact h13) (by rw [g0]; exact h14) hw jl rn (by omega)
    obtain ⟨F2, v2, R2, pf, e8⟩ := ss hfr.1 hfr.2
    rw [cv_408 I1, show f_X4_readSum ((x + 408 : Nat) : Int) 0 (cS x S C1) = some (0, cS x S C') from v, fcall_some, if_pos rfl, r_cv R1, v2, fcall_some, finf F2 _ R2]
    refine Or.inl ⟨f, j', C', _, hfr, rfl, FX_Fail hf (hpl1 j' hj') (fun i hi => fr1 i (by omega) (by omega)), rfl, rV R2 (by omega) _, lrf F2 _ pf, ?_⟩
    rw [va_up_ne _ _ (by omega)]
    exact e8
  · have rn := Rn_fin na hj'.2 so
    have ss := s_summed R1 tp1 t1 ht (by rw [g0]; exact h12) (by rw [g0]; exact h13) (by rw [g0]; exact h14) hw jl rn (by omega)
    obtain ⟨F2, v2, w', pm, pf, i1, i2, i3, i4⟩ := ss
    obtain ⟨⟨R2, tp2, t2, _⟩, ⟨_, h13', _⟩, hw', _, hcx⟩ := pm
    have J' := rdS_CI I1 j' q' c'
    have l1 := Seg_lt sg (by omega)
    have w'j : w' ≤ j' := by simpa using i1
    rw [cv_408 I1, show f_X4_readSum ((x + 408 : Nat) : Int) 0 (cS x S C1) = some (1, cS x S (rdS C1 j' q' c')) from v, fcall_some, if_neg (by decide), cr408_10 J', cg_408 J', rd_86, st_412 J' (by omega) (by omega), toNat_z, rd_o (by decide) (by decide), fr1 412 (by decide) (by decide), r_cv R1, v2, fcall_some, fin F2 (w' : Int) R2 h13']
    have o0 : va_up F2 3 (va_up (F2 3) (X + 2) (w' : Int)) 0 = F2 0 := va_up_ne _ _ (by omega)
    refine Or.inr ⟨d, j', q', w', _, _, rfl, ⟨CI_ar J' (fun k => rfl), ?_, fun j2 hj2 => ?_, ⟨?_, hj'.2⟩, ?_⟩, ⟨fun i a b c e => ?_, fun k a b c => ?_⟩, ?_, ⟨l1, hq'⟩, fun i hi => ?_, ?_, bd, ?_, ?_, rfl, ⟨rV R2 (by omega) _, ⟨(va_up_ne _ _ (by omega)).trans tp2.1, by rw [o0]; exact tp2.2.1, tp2.2.2⟩, TokS_fr t2 (fun i _ _ => by rw [o0])⟩, ?_, ⟨hw', w'j⟩, ?_, ?_, ?_, lrf F2 _ pf, hj'.1⟩
    · unfold TKs
      rw [va_up_ne _ _ (by decide), va_up_ne _ _ (by decide), va_up_ne _ _ (by decide), rd_o (by decide) (by decide), rd_o (by decide) (by decide), rd_o (by decide) (by decide)]
      exact K1
    · unfold plc
      rw [va_up_ne _ _ (by decide), va_up_ne _ _ (by decide), rd_o (by decide) (by decide), rd_o (by decide) (by decide)]
      exact hpl1 j2 hj2
    · rw [va_up_ne _ _ (by decide), rd_83]
    · rw [va_up_ne _ _ (by decide), rd_8o (by decide) (by decide), e08, va_up_ne _ _ (by decide), h5]
    · rw [va_up_ne _ _ e, rd_o a b, fr1 i a c]
    · rw [va_up_ne _ _ (by decide), rd_8o a c, e08, va_up_ne _ _ b]
    · rw [va_up_ne _ _ (by decide), rd_86]
    · rw [va_up_ne _ _ (by decide), rd_c, hc' i hi, fr1 410 (by decide) (by decide)]
    · rw [va_up_ne _ _ (by decide), rd_c]
      exact sg
    · rw [va_up_ne _ _ (by decide), rd_o (by decide) (by decide), e11]
    · rw [va_up_self]
    · rw [o0]; exact h13'
    · rw [va_up_self, va_up_ne _ _ (by omega), pf.2.1 (X + 1) (by omega), g3, va_up_self]
    · rw [va_up_self, va_up_self]
    · rw [va_up_self, cex_c (f := F2 3) (w' - w) (fun k k1 k2 => va_up_ne _ _ (by omega))]
      exact hcx
end LJ
