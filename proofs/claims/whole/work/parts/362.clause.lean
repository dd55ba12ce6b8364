-- a clause, on both sides
abbrev Row : Type := Nat × (Nat → Int)
def LawC (C : Nat → Nat → Int) (q : Nat) (V : Nat → Option Den) : Prop := ∀ s, s < 3 → (V s = none → C 411 (s + 1) = 0 ∧ C 412 (s + 1) = 0) ∧ ∀ d, V s = some d → ∃ a b : Nat, C 411 (s + 1) = (a : Int) ∧ C 412 (s + 1) = (b : Int) ∧ a < b ∧ b ≤ q ∧ Seg (C 410) a b d 43 ∧ Bd d
def RowsC (f : Nat → Int) (n : Nat) (rws : Nat → Row) : Prop := ∀ i, i < n → (1 ≤ (rws i).1 ∧ (rws i).1 ≤ 11) ∧ f (4 * i) = ((rws i).1 : Int) ∧ (∀ c, 1 ≤ c → c ≤ ncl (rws i).1 → f (4 * i + c) = (rws i).2 c) ∧ ((rws i).1 = 11 → 1 ≤ (rws i).2 1 ∧ (rws i).2 1 ≤ 60)
def RowsR (f : Nat → Int) (t0 w n : Nat) (V : Nat → Option Den) (rws : Nat → Row) : Prop := (∀ i, i < n → f (t0 + 1 + 4 * i) = (srt (rws i).1 : Int) ∧ (∀ c, 1 ≤ c → c ≤ ncl (rws i).1 → f (t0 + 1 + 4 * i + c) = (rws i).2 c) ∧ ((rws i).1 ≤ 3 → ∃ (d : Den) (a b : Nat), V ((rws i).1 - 1) = some d ∧ f (t0 + 1 + 4 * i + 1) = (a : Int) ∧ f (t0 + 1 + 4 * i + 2) = (b : Int) ∧ a ≤ b ∧ b ≤ w ∧ cex f (t0 + 97 + 2 * a) (lmt ((rws i).1 - 1)) (b - a) = some ([d], []))) ∧ ∀ s, s < 3 → (V s).isSome = true → ∃ i, i < n ∧ (rws i).1 = s + 1
def PJc (x : Nat) (S : jSt) (B : Nat → Int) (L T : Nat) (C : Nat → Nat → Int) (j n q : Nat) (V : Nat → Option Den) (rws : Nat → Row) : Prop := CQ x S B L T n C j ∧ C 408 6 = (q : Int) ∧ q ≤ j ∧ n ≤ 24 ∧ LawC C q V ∧ RowsC (C 409) n rws
def PJr (m : Nat) (S2 : jSt) (B : Nat → Int) (L t0 : Nat) (F : Nat → Nat → Int) (j n w : Nat) (V : Nat → Option Den) (rws : Nat → Row) : Prop := RQ m S2 B L F j ∧ F 0 12 = (t0 : Int) ∧ F 0 13 = (w : Int) ∧ w ≤ j ∧ F 3 t0 = (n : Int) ∧ (∃ o : Nat, o < 8 ∧ F 0 19 = (o : Int) ∧ ∀ s, s < 3 → o.testBit s = (V s).isSome) ∧ RowsR (F 3) t0 w n V rws
def CTf (C C' : Nat → Nat → Int) : Prop := (∀ i, (i < 408 ∨ 412 < i) → C' i = C i) ∧ C' 408 0 = C 408 0 ∧ C' 408 1 = C 408 1
def CJR (x m : Nat) (S S2 : jSt) (B : Nat → Int) (L T t0 : Nat) (C F : Nat → Nat → Int) (j n : Nat) (o1 o2 : Option (Int × jSt)) : Prop :=
  (∃ f j' C' F', (1 ≤ f ∧ f ≤ 6) ∧ o1 = some (0, cS x S C') ∧ FX x S C f (psn B L j' : Nat) C' ∧ o2 = some ((f : Int), rS m S2 F') ∧ RI m S2 F' ∧ TF t0 F F' ∧ F' 0 8 = (psn B L j' : Int)) ∨
  (∃ (V : Nat → Option Den) (rws : Nat → Row) (j' q' w' : Nat) (C' F' : Nat → Nat → Int), o1 = some (1, cS x S C') ∧ o2 = some (0, rS m S2 F') ∧ PJc x S B L T C' j' (n + 1) q' V rws ∧ PJr m S2 B L t0 F' j' (n + 1) w' V rws ∧ j < j' ∧ CTf C C' ∧ TF t0 F F')
theorem TF_r (t0 : Nat) (F : Nat → Nat → Int) : TF t0 F F := ⟨fun _ _ _ _ => rfl, fun _ _ => rfl, fun _ _ => rfl⟩
theorem TF_t {t0 : Nat} {F F1 F2 : Nat → Nat → Int} (h1 : TF t0 F F1) (h2 : TF t0 F1 F2) : TF t0 F F2 := ⟨fun i a b c => (h2.1 i a b c).trans (h1.1 i a b c), fun k h => (h2.2.1 k h).trans (h1.2.1 k h), fun k h => (h2.2.2 k h).trans (h1.2.2 k h)⟩
def tailR (x0 : Int) (S14 : jSt) : Option (Int × jSt) := fgetr S14 x0 12 2 (fun v15 => fget S14 x0 12 12 (fun v16 => fald S14 v15 v16 1 (fun v17 => fast S14 v15 v16 1 (w32 (v17 + 1)) (fun S18 => fget S18 x0 12 9 (fun v19 => if v19 = 59 then fcallv S18 x0 12 (f_X12_nextToken x0 S18) (fun v20 S21 => some (0, S21)) else some (1, S18))))))
section CL
variable {x m : Nat} {S S2 : jSt} {C F : Nat → Nat → Int} {B : Nat → Int} {L T n j t0 w q : Nat} {V : Nat → Option Den} {rws : Nat → Row}
theorem s_sortOf (hF : RQ m S2 B L F j) : f_X12_sortOf (m : Int) (rS m S2 F) = some (if 1 ≤ tkB B L j ∧ tkB B L j ≤ 11 then (srt (tkB B L j) : Int) else -1, rS m S2 F) := by
  obtain ⟨R, tp, t⟩ := hF
  have ek : kdX B L (psn B L j) = tkB B L j := rfl
  unfold f_X12_sortOf f_X12_sortOf_b223
  rw [cw_1, fcall_some, r_cv R, s_isWord R t (by omega) (by omega) (by omega), fcall_some, ek]
  by_cases e1 : tkB B L j = 1
  · rw [if_pos e1, if_neg (by decide), e1]; rfl
  rw [if_neg e1, if_pos rfl, r_cv R, s_isReserve R tp t, fcall_some, ek]
  by_cases e2 : tkB B L j = 2
  · rw [if_pos e2, if_neg (by decide), e2]; rfl
  rw [if_neg e2, if_pos rfl, cw_3, fcall_some, r_cv R, s_isWord R t (by omega) (by omega) (by omega), fcall_some, ek]
  by_cases e3 : tkB B L j = 3
  · rw [if_pos e3, if_neg (by decide), e3]; rfl
  rw [if_neg e3, if_pos rfl, cw_9, fcall_some, r_cv R, s_isWord R t (by omega) (by omega) (by omega), fcall_some, ek]
  by_cases e9 : tkB B L j = 9
  · rw [if_pos e9, if_neg (by decide), e9]; rfl
  rw [if_neg e9, if_pos rfl, cw_4, fcall_some, r_cv R, s_isWord R t (by omega) (by omega) (by omega), fcall_some, ek]
  by_cases e4 : tkB B L j = 4
  · rw [if_pos e4, if_neg (by decide), e4]; rfl
  rw [if_neg e4, if_pos rfl, cw_10, fcall_some, r_cv R, s_isWord R t (by omega) (by omega) (by omega), fcall_some, ek]
  by_cases e10 : tkB B L j = 10
  · rw [if_pos e10, if_neg (by decide), e10]; rfl
  rw [if_neg e10, if_pos rfl, cw_5, fcall_some, r_cv R, s_isWord R t (by omega) (by omega) (by omega), fcall_some, ek]
  by_cases e5 : tkB B L j = 5
  · rw [if_pos e5, if_neg (by decide), e5]; rfl
  rw [if_neg e5, if_pos rfl, cw_6, fcall_some, r_cv R, s_isWord R t (by omega) (by omega) (by omega), fcall_some, ek]
  by_cases e6 : tkB B L j = 6
  · rw [if_pos e6, if_neg (by decide), e6]; rfl
  rw [if_neg e6, if_pos rfl, cw_7, fcall_some, r_cv R, s_isWord R t (by omega) (by omega) (by omega), fcall_some, ek]
  by_cases e7 : tkB B L j = 7
  · rw [if_pos e7, if_neg (by decide), e7]; rfl
  rw [if_neg e7, if_pos rfl, cw_8, fcall_some, r_cv R, s_isWord R t (by omega) (by omega) (by omega), fcall_some, ek]
  by_cases e8 : tkB B L j = 8
  · rw [if_pos e8, if_neg (by decide), e8]; rfl
  rw [if_neg e8, if_pos rfl, cw_11, fcall_some, r_cv R, s_isWord R t (by omega) (by omega) (by omega), fcall_some, ek]
  by_cases e11 : tkB B L j = 11
  · rw [if_pos e11, if_neg (by decide), e11]; rfl
  rw [if_neg e11, if_pos rfl, if_neg (by omega)]
theorem srt_b {k : Nat} (h : 1 ≤ k ∧ k ≤ 11) : srt k ≤ 10 ∧ (k ≤ 3 ↔ srt k ≤ 2) ∧ (k ≤ 3 → srt k = k - 1) := by
  have : k = 1 ∨ k = 2 ∨ k = 3 ∨ k = 4 ∨ k = 5 ∨ k = 6 ∨ k = 7 ∨ k = 8 ∨ k = 9 ∨ k = 10 ∨ k = 11 := by omega
  rcases this with rfl | rfl | rfl | rfl | rfl | rfl | rfl | rfl | rfl | rfl | rfl <;> decide
theorem CQ_ref (hC : CQ x S B L T n C j) (h6 : C 408 6 = (q : Int)) (f : Nat) : ∃ C', f_X4_refuse ((x + 408 : Nat) : Int) (f : Int) (cS x S C) = some (0, cS x S C') ∧ FX x S C f (psn B L j : Nat) C' := by
  obtain ⟨I, K, hpl, ⟨h3, hjT⟩, h5⟩ := hC
  obtain ⟨C', v, hf⟩ := k_ref I K f j q (C 410)
  rw [rd_id h3 h6] at v
  exact ⟨C', v, FX_Fail hf (hpl j hjT) (fun _ _ => rfl)⟩
theorem CQ_knd (hC : CQ x S B L T n C j) (h6 : C 408 6 = (q : Int)) : f_X4_kind ((x + 408 : Nat) : Int) (cS x S C) = some ((tkB B L j : Int), cS x S C) := by
  obtain ⟨I, K, hpl, ⟨h3, hjT⟩, h5⟩ := hC
  have kk := k_kind I K j q (C 410)
  rw [rd_id h3 h6] at kk
  exact kk
/-- the end of a clause: the semicolon -/
theorem semiJ (hC : CQ x S B L T n C j) (h6 : C 408 6 = (q : Int)) (hn : n < 24) (hF : RQ m S2 B L F j) (ht : t0 ≤ 2115) (h12 : F 0 12 = (t0 : Int)) (h3n : F 3 t0 = (n : Int)) : (∃ C' F', f_X4_readClause_b109 ((x + 408 : Nat) : Int) (cS x S C) = some (0, cS x S C') ∧ FX x S C 1 (psn B L j : Nat) C' ∧ tailR (m : Int) (rS m S2 F) = some (1, rS m S2 F') ∧ RI m S2 F' ∧ TF t0 F F' ∧ F' 0 8 = (psn B L j : Int)) ∨ (∃ C' F', f_X4_readClause_b109 ((x + 408 : Nat) : Int) (cS x S C) = some (1, cS x S C') ∧ CQ x S B L T (n + 1) C' (j + 1) ∧ (∀ i, i ≠ 408 → C' i = C i) ∧ (C' 408 0 = C 408 0 ∧ C' 408 1 = C 408 1) ∧ C' 408 6 = (q : Int) ∧ tailR (m : Int) (rS m S2 F) = some (0, rS m S2 F') ∧ RQ m S2 B L F' (j + 1) ∧ F' 3 = va_up (F 3) t0 ((n + 1 : Nat) : Int) ∧ (∀ i, i ≠ 0 → i ≠ 3 → F' i = F i) ∧ ∀ k, (k < 7 ∨ 11 < k) → F' 0 k = F 0 k) := by
  obtain ⟨R, tp, t⟩ := hF
  have R1 : RI m S2 (va_up F 3 (va_up (F 3) t0 ((n + 1 : Nat) : Int))) := rV R (by omega) _
  have e0 : va_up F 3 (va_up (F 3) t0 ((n + 1 : Nat) : Int)) 0 = F 0 := va_up_ne _ _ (by omega)
  have tp1 : TP (va_up F 3 (va_up (F 3) t0 ((n + 1 : Nat) : Int))) B L := ⟨(va_up_ne _ _ (by omega)).trans tp.1, by rw [e0]; exact tp.2.1, tp.2.2⟩
  have t1 : TokS (va_up F 3 (va_up (F 3) t0 ((n + 1 : Nat) : Int))) B L (psn B L j) := TokS_fr t (fun i _ _ => by rw [e0])
  have c43 : F 0 9 = 59 ↔ tkB B L j = 43 := tcode t (k' := 43) (by omega) (by omega)
  unfold f_X4_readClause_b109 f_X4_readClause_b118 tailR
  rw [r_tx R, r_g R, h12, ra_3 R (by omega) (by omega), toNat_z, h3n, w32_of (by omega) (by omega), rt_3 R (by omega) (by omega), toNat_z, zs, r_g R1, e0, cv_408 hC.1]
  rcases CQ_kind hC h6 43 with ⟨t43, C', v, hx⟩ | ⟨t43, good⟩
  · left
    rw [show (43 : Int) = ((43 : Nat) : Int) from rfl, v, fcall_some, if_pos rfl, if_neg (fun z => t43 (c43.mp z))]
    refine ⟨C', _, rfl, hx, rfl, R1, ⟨fun i a b c => va_up_ne _ _ b, fun k hk => ?_, fun k hk => ?_⟩, ?_⟩
    · rw [va_up_self, va_up_ne _ _ (by omega)]
    · rw [e0]
    · rw [e0]; exact t.1.2.1
  · right
    obtain ⟨C1, v1, c1, fr1, e1⟩ := good (by omega)
    obtain ⟨F', w', r', l'⟩ := RQ_next ⟨R1, tp1, t1⟩
    obtain ⟨I1, K1, hpl1, ⟨h31, hj1⟩, h51⟩ := c1
    rw [show (43 : Int) = ((43 : Nat) : Int) from rfl, v1, fcall_some, if_neg (by decide), cg_408 I1, h51, w32_of (by omega) (by omega), cp_408 I1, zs, if_pos (c43.mpr t43), r_cv R1, w', fcall_some]
    have fr2 : ∀ i, i ≠ 408 → va_up C1 408 (va_up (C1 408) 5 ((n + 1 : Nat) : Int)) i = C i := fun i hi => by
      rw [va_up_ne _ _ hi]
      by_cases h9 : i = 409
      · rw [h9, e1]
      · exact fr1.1 i hi h9
    refine ⟨_, F', rfl, ⟨CI_up I1 rfl, ?_, fun j' hj' => ?_, ⟨?_, hj1⟩, ?_⟩, fr2, ⟨?_, ?_⟩, ?_, rfl, r', ?_, fun i a b => ?_, fun k hk => ?_⟩
    · unfold TKs
      rw [fr2 403 (by decide), fr2 405 (by decide), fr2 407 (by decide)]
      exact hC.2.1
    · unfold plc
      rw [fr2 403 (by decide), fr2 406 (by decide)]
      exact hC.2.2.1 j' hj'
    · rw [va_up_self, va_up_ne _ _ (by decide), h31]
    · rw [va_up_self, va_up_self]
    · rw [va_up_self, va_up_ne _ _ (by decide), fr1.2.1 0 (by decide)]
    · rw [va_up_self, va_up_ne _ _ (by decide), fr1.2.1 1 (by decide)]
    · rw [va_up_self, va_up_ne _ _ (by decide), fr1.2.1 6 (by decide), h6]
    · rw [l'.1 3 (by omega), va_up_self]
    · rw [l'.1 i a, va_up_ne _ _ b]
    · rw [l'.2 k hk, e0]
end CL
