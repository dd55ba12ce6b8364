-- class and reference read a deed's tokens side by side
def FX (x : Nat) (S : jSt) (C : Nat → Nat → Int) (f : Nat) (p : Int) (C' : Nat → Nat → Int) : Prop := CI x S C' ∧ (∀ i, (i < 403 ∨ 412 < i ∨ i = 404) → C' i = C i) ∧ C' 408 0 = (f : Int) ∧ C' 408 1 = p
def TF (t0 : Nat) (F F' : Nat → Nat → Int) : Prop := (∀ i, i ≠ 0 → i ≠ 3 → i ≠ 5 → F' i = F i) ∧ (∀ k, (k < t0 ∨ t0 + 705 ≤ k) → F' 3 k = F 3 k) ∧ ∀ k, (k < 7 ∨ k = 15 ∨ 19 < k) → F' 0 k = F 0 k
def CQ (x : Nat) (S : jSt) (B : Nat → Int) (L T n : Nat) (C : Nat → Nat → Int) (j : Nat) : Prop := CI x S C ∧ TKs C T (tkB B L) (tvB B L) ∧ (∀ j, j ≤ T → plc C j = (psn B L j : Int)) ∧ (C 408 3 = (j : Int) ∧ j ≤ T) ∧ C 408 5 = (n : Int)
def CFr (n : Nat) (C C' : Nat → Nat → Int) : Prop := (∀ i, i ≠ 408 → i ≠ 409 → C' i = C i) ∧ (∀ k, k ≠ 3 → C' 408 k = C 408 k) ∧ ∀ k, k ≤ 4 * n → C' 409 k = C 409 k
def RQ (m : Nat) (S : jSt) (B : Nat → Int) (L : Nat) (F : Nat → Nat → Int) (j : Nat) : Prop := RI m S F ∧ TP F B L ∧ TokS F B L (psn B L j)
def RFr (X : Nat) (F F' : Nat → Nat → Int) : Prop := (∀ i, i ≠ 0 → i ≠ 3 → F' i = F i) ∧ (∀ k, (k < 7 ∨ 11 < k) → F' 0 k = F 0 k) ∧ ∀ k, (k ≤ X ∨ X + 4 ≤ k) → F' 3 k = F 3 k
theorem CFr_r (n : Nat) (C : Nat → Nat → Int) : CFr n C C := ⟨fun _ _ _ => rfl, fun _ _ => rfl, fun _ _ => rfl⟩
theorem CFr_t {n : Nat} {C C1 C2 : Nat → Nat → Int} (h1 : CFr n C C1) (h2 : CFr n C1 C2) : CFr n C C2 := ⟨fun i a b => (h2.1 i a b).trans (h1.1 i a b), fun k a => (h2.2.1 k a).trans (h1.2.1 k a), fun k a => (h2.2.2 k a).trans (h1.2.2 k a)⟩
theorem RFr_r (X : Nat) (F : Nat → Nat → Int) : RFr X F F := ⟨fun _ _ _ => rfl, fun _ _ => rfl, fun _ _ => rfl⟩
theorem RFr_t {X : Nat} {F F1 F2 : Nat → Nat → Int} (h1 : RFr X F F1) (h2 : RFr X F1 F2) : RFr X F F2 := ⟨fun i a b => (h2.1 i a b).trans (h1.1 i a b), fun k a => (h2.2.1 k a).trans (h1.2.1 k a), fun k a => (h2.2.2 k a).trans (h1.2.2 k a)⟩
theorem RFr_LX {X : Nat} {F F' : Nat → Nat → Int} (h : LX F F') : RFr X F F' := ⟨fun i a _ => h.1 i a, h.2, fun k _ => by rw [h.1 3 (by omega)]⟩
theorem FX_t {x : Nat} {S : jSt} {C C1 C' : Nat → Nat → Int} {n f : Nat} {p : Int} (h1 : CFr n C C1) (h : FX x S C1 f p C') : FX x S C f p C' := ⟨h.1, fun i hi => (h.2.1 i hi).trans (h1.1 i (by omega) (by omega)), h.2.2⟩
section DJ
variable {x m : Nat} {S S2 : jSt} {C F : Nat → Nat → Int} {B : Nat → Int} {L T n j : Nat}
theorem rd_id (h3 : C 408 3 = (j : Int)) {q : Nat} (h6 : C 408 6 = (q : Int)) : rdS C j q (C 410) = C := by
  unfold rdS
  rw [← h3, ← h6, va_id, va_id, va_id, va_id]
theorem FX_Fail {C0 : Nat → Nat → Int} {f j' : Nat} {p : Int} {C' : Nat → Nat → Int} (h : Fail x S C f j' C') (hp : plc C j' = p) (h0 : ∀ i, (i < 403 ∨ 412 < i ∨ i = 404) → C i = C0 i) : FX x S C0 f p C' := ⟨h.1, fun i hi => (h.2.1 i (by omega) (by omega)).trans (h0 i hi), h.2.2.1, by rw [h.2.2.2.1, hp]⟩
theorem CQ_num {q : Nat} (hC : CQ x S B L T n C j) (h6 : C 408 6 = (q : Int)) (hn : n < 24) {col : Nat} (hc : 1 ≤ col ∧ col ≤ 3) {lo hi : Int} : (∃ f, (1 ≤ f ∧ f ≤ 2) ∧ (f = 1 ↔ tkB B L j ≠ 30) ∧ (f = 2 → ¬ (lo ≤ tvB B L j ∧ tvB B L j ≤ hi)) ∧ ∃ C', f_X4_readNumber ((x + 408 : Nat) : Int) (col : Int) lo hi (cS x S C) = some (0, cS x S C') ∧ FX x S C f (psn B L j) C') ∨ (tkB B L j = 30 ∧ (lo ≤ tvB B L j ∧ tvB B L j ≤ hi) ∧ ∃ C', f_X4_readNumber ((x + 408 : Nat) : Int) (col : Int) lo hi (cS x S C) = some (1, cS x S C') ∧ CQ x S B L T n C' (j + 1) ∧ CFr n C C' ∧ C' 409 = va_up (C 409) (4 * n + col) (tvB B L j)) := by
  obtain ⟨I, K, hpl, ⟨h3, hjT⟩, h5⟩ := hC
  have hT := K.1.2
  have e := rd_id h3 h6
  unfold f_X4_readNumber
  have kk := k_kind I K j q (C 410)
  rw [e] at kk
  rw [cv_408 I, kk, fcall_some]
  by_cases t30 : tkB B L j = 30
  · have hj : j < T := lt_T K (by omega)
    have kv := k_val I K hj q (C 410)
    rw [e] at kv
    rw [if_pos (by omega), cr408_2 I, cg_408 I, h3, cv_403 I, kv, fcall_some, s_within, fcall_some, if_b01]
    by_cases hb : lo ≤ tvB B L j ∧ tvB B L j ≤ hi
    · right
      refine ⟨t30, hb, ?_⟩
      rw [if_pos hb, cr408_7 I, cg_408 I, h5, w32_of (z := (n : Int) * 4) (by omega) (by omega), w32_of (by omega) (by omega), st_409 I (by omega) (by omega), show ((n : Int) * 4 + (col : Int)).toNat = 4 * n + col by omega]
      have I1 : CI x S (va_up C 409 (va_up (C 409) (4 * n + col) (tvB B L j))) := CI_up I rfl
      have e8 : va_up C 409 (va_up (C 409) (4 * n + col) (tvB B L j)) 408 = C 408 := va_up_ne _ _ (by decide)
      rw [cg_408 I1, e8, h3, w32_of (by omega) (by omega), cp_408 I1, e8, zs]
      have I2 : CI x S (va_up (va_up C 409 (va_up (C 409) (4 * n + col) (tvB B L j))) 408 (va_up (C 408) 3 ((j + 1 : Nat) : Int))) := by rw [← e8]; exact CI_up I1 rfl
      have fr : ∀ i, i ≠ 408 → i ≠ 409 → va_up (va_up C 409 (va_up (C 409) (4 * n + col) (tvB B L j))) 408 (va_up (C 408) 3 ((j + 1 : Nat) : Int)) i = C i := fun i a b => by rw [va_up_ne _ _ a, va_up_ne _ _ b]
      refine ⟨_, rfl, ⟨I2, ?_, fun j' hj' => ?_, ⟨?_, by omega⟩, ?_⟩, ⟨fr, fun k hk => ?_, fun k hk => ?_⟩, ?_⟩
      · unfold TKs
        rw [fr 403 (by decide) (by decide), fr 405 (by decide) (by decide), fr 407 (by decide) (by decide)]
        exact K
      · unfold plc
        rw [fr 403 (by decide) (by decide), fr 406 (by decide) (by decide)]
        exact hpl j' hj'
      · rw [va_up_self, va_up_self]
      · rw [va_up_self, va_up_ne _ _ (by decide), h5]
      · rw [va_up_self, va_up_ne _ _ hk]
      · rw [va_up_ne _ _ (by decide), va_up_self, va_up_ne _ _ (by omega)]
      · rw [va_up_ne _ _ (by decide), va_up_self]
    · left
      obtain ⟨C', v, hf⟩ := k_ref I K 2 j q (C 410)
      rw [e] at v
      rw [if_neg hb, cv_408 I, show (2 : Int) = ((2 : Nat) : Int) from rfl, v, fcall_some]
      exact ⟨2, by omega, ⟨fun z => by omega, fun z => absurd t30 z⟩, fun _ => hb, C', rfl, FX_Fail hf (hpl j hjT) (fun _ _ => rfl)⟩
  · left
    obtain ⟨C', v, hf⟩ := k_ref I K 1 j q (C 410)
    rw [e] at v
    rw [if_neg (by omega), cv_408 I, show (1 : Int) = ((1 : Nat) : Int) from rfl, v, fcall_some]
    exact ⟨1, by omega, ⟨fun _ => t30, fun _ => rfl⟩, fun z => by omega, C', rfl, FX_Fail hf (hpl j hjT) (fun _ _ => rfl)⟩
theorem CQ_kind {q : Nat} (hC : CQ x S B L T n C j) (h6 : C 408 6 = (q : Int)) (k : Nat) : (tkB B L j ≠ k ∧ ∃ C', f_X4_readKind ((x + 408 : Nat) : Int) (k : Int) (cS x S C) = some (0, cS x S C') ∧ FX x S C 1 (psn B L j) C') ∨ (tkB B L j = k ∧ (k ≠ 44 → ∃ C', f_X4_readKind ((x + 408 : Nat) : Int) (k : Int) (cS x S C) = some (1, cS x S C') ∧ CQ x S B L T n C' (j + 1) ∧ CFr n C C' ∧ C' 409 = C 409)) := by
  obtain ⟨I, K, hpl, ⟨h3, hjT⟩, h5⟩ := hC
  have hT := K.1.2
  have e := rd_id h3 h6
  rcases k_rk I K k j q (C 410) (by omega) with ⟨t, v⟩ | ⟨t, C', v, hf⟩
  · right
    refine ⟨t, fun k44 => ?_⟩
    have hj : j < T := lt_T K (by omega)
    rw [e] at v
    have e2 : rdS C (j + 1) q (C 410) = va_up C 408 (va_up (C 408) 3 ((j + 1 : Nat) : Int)) := by
      have := rd_j (C := C) (j := j) (q := q) (c := C 410) (j + 1)
      rw [e] at this
      exact this.symm
    rw [e2] at v
    have fr : ∀ i, i ≠ 408 → va_up C 408 (va_up (C 408) 3 ((j + 1 : Nat) : Int)) i = C i := fun i a => va_up_ne _ _ a
    refine ⟨_, v, ⟨CI_up I rfl, ?_, fun j' hj' => ?_, ⟨?_, by omega⟩, ?_⟩, ⟨fun i a _ => fr i a, fun k hk => ?_, fun k hk => ?_⟩, ?_⟩
    · unfold TKs
      rw [fr 403 (by decide), fr 405 (by decide), fr 407 (by decide)]
      exact K
    · unfold plc
      rw [fr 403 (by decide), fr 406 (by decide)]
      exact hpl j' hj'
    · rw [va_up_self, va_up_self]
    · rw [va_up_self, va_up_ne _ _ (by decide), h5]
    · rw [va_up_self, va_up_ne _ _ hk]
    · rw [fr 409 (by decide)]
    · rw [fr 409 (by decide)]
  · left
    rw [e] at v
    exact ⟨t, C', v, FX_Fail hf (hpl j hjT) (fun _ _ => rfl)⟩
theorem RQ_num (hF : RQ m S2 B L F j) {X : Nat} (hX : X < 2820) {lo hi : Int} (hlo : 0 ≤ lo) (hhi : hi ≤ 9999) : (tkB B L j ≠ 30 ∧ f_X12_figure (m : Int) (X : Int) lo hi (rS m S2 F) = some (1, rS m S2 F)) ∨ (tkB B L j = 30 ∧ ¬ (lo ≤ tvB B L j ∧ tvB B L j ≤ hi) ∧ f_X12_figure (m : Int) (X : Int) lo hi (rS m S2 F) = some (2, rS m S2 F)) ∨ (tkB B L j = 30 ∧ (lo ≤ tvB B L j ∧ tvB B L j ≤ hi) ∧ ∃ F', f_X12_figure (m : Int) (X : Int) lo hi (rS m S2 F) = some (0, rS m S2 F') ∧ RQ m S2 B L F' (j + 1) ∧ (∀ i, i ≠ 0 → i ≠ 3 → F' i = F i) ∧ (∀ k, (k < 7 ∨ 11 < k) → F' 0 k = F 0 k) ∧ F' 3 = va_up (F 3) X (tvB B L j)) := by
  obtain ⟨R, tp, t⟩ := hF
  unfold f_X12_figure
  have c30 : F 0 9 = 1 ↔ tkB B L j = 30 := tcode t (k' := 30) (by omega) (by omega)
  rw [r_g R]
  by_cases t30 : tkB B L j = 30
  · have jl := lt300 (B := B) tp.2.2.1 (j := j) (by omega)
    have etv : tvB B L j = vlA B L (psn B L j) := by unfold tvB; rw [if_pos jl.2]
    have hn := t.2.1.2.2 t30
    rw [← etv] at hn
    have hv := vlA_b (B := B) jl.2
    rw [← etv] at hv
    rw [if_pos (c30.mpr t30), r_g R, s_isIn, fcall_some, if_b01]
    have eqv : (lo ≤ F 0 10 ∧ F 0 10 ≤ hi) ↔ (lo ≤ tvB B L j ∧ tvB B L j ≤ hi) := by
      by_cases h9 : tvB B L j ≤ 9999
      · rw [hn.1 h9]
      · have := hn.2 (by omega)
        constructor <;> (intro q; omega)
    by_cases hb : lo ≤ tvB B L j ∧ tvB B L j ≤ hi
    · right; right
      refine ⟨t30, hb, ?_⟩
      have ev : F 0 10 = tvB B L j := hn.1 (by omega)
      rw [if_pos (eqv.mpr hb), r_tx R, r_g R, ev, rt_3 R (by omega) (by omega), toNat_z]
      have R1 : RI m S2 (va_up F 3 (va_up (F 3) X (tvB B L j))) := rV R (by omega) _
      have e0 : va_up F 3 (va_up (F 3) X (tvB B L j)) 0 = F 0 := va_up_ne _ _ (by omega)
      have tp1 : TP (va_up F 3 (va_up (F 3) X (tvB B L j))) B L := ⟨(va_up_ne _ _ (by omega)).trans tp.1, by rw [e0]; exact tp.2.1, tp.2.2⟩
      obtain ⟨F', v, l, t'⟩ := s_nextToken R1 tp1 (p := tnd B L (psn B L j)) (by rw [e0]; exact t.1.2.2) (tnd_b t.1.1).2.1
      rw [r_cv R1, v, fcall_some]
      refine ⟨F', rfl, ⟨LX_RI l R1, TP_LX tp1 l, t'⟩, fun i a b => ?_, fun k hk => ?_, ?_⟩
      · rw [l.1 i a, va_up_ne _ _ b]
      · rw [l.2 k hk, e0]
      · rw [l.1 3 (by omega), va_up_self]
    · right; left
      refine ⟨t30, hb, ?_⟩
      rw [if_neg (fun z => hb (eqv.mp z))]
  · left
    exact ⟨t30, by rw [if_neg (fun z => t30 (c30.mp z))]⟩
theorem RQ_next (hF : RQ m S2 B L F j) : ∃ F', f_X12_nextToken (m : Int) (rS m S2 F) = some (0, rS m S2 F') ∧ RQ m S2 B L F' (j + 1) ∧ LX F F' := by
  obtain ⟨R, tp, t⟩ := hF
  obtain ⟨F', v, l, t'⟩ := s_nextToken R tp t.1.2.2 (tnd_b t.1.1).2.1
  exact ⟨F', v, ⟨LX_RI l R, TP_LX tp l, t'⟩, l⟩
/-- a number: both take it, or both refuse it alike -/
theorem numJ {q : Nat} (hC : CQ x S B L T n C j) (h6 : C 408 6 = (q : Int)) (hn : n < 24) (hF : RQ m S2 B L F j) {X : Nat} (hX : X + 4 ≤ 2820) {col : Nat} (hc : 1 ≤ col ∧ col ≤ 3) {lo hi : Int} (hlo : 0 ≤ lo) (hhi : hi ≤ 9999) : (∃ f C', (1 ≤ f ∧ f ≤ 6) ∧ f_X4_readNumber ((x + 408 : Nat) : Int) (col : Int) lo hi (cS x S C) = some (0, cS x S C') ∧ FX x S C f (psn B L j) C' ∧ f_X12_figure (m : Int) ((X + col : Nat) : Int) lo hi (rS m S2 F) = some ((f : Int), rS m S2 F)) ∨ (∃ C' F', f_X4_readNumber ((x + 408 : Nat) : Int) (col : Int) lo hi (cS x S C) = some (1, cS x S C') ∧ CQ x S B L T n C' (j + 1) ∧ CFr n C C' ∧ C' 409 = va_up (C 409) (4 * n + col) (tvB B L j) ∧ (lo ≤ tvB B L j ∧ tvB B L j ≤ hi) ∧ f_X12_figure (m : Int) ((X + col : Nat) : Int) lo hi (rS m S2 F) = some (0, rS m S2 F') ∧ RQ m S2 B L F' (j + 1) ∧ RFr X F F' ∧ F' 3 = va_up (F 3) (X + col) (tvB B L j)) := by
  rcases CQ_num hC h6 hn hc (lo := lo) (hi := hi) with ⟨f, hf, f1, f2, C', v, hx⟩ | ⟨t30, hb, C', v, q1, q2, q3⟩
  · left
    refine ⟨f, C', by omega, v, hx, ?_⟩
    rcases RQ_num hF (X := X + col) (by omega) hlo hhi with ⟨a, b⟩ | ⟨a, b, c⟩ | ⟨a, b, _⟩
    · rw [f1.mpr a]; exact b
    · have : f = 2 := by
        have : f ≠ 1 := fun z => (f1.mp z) a
        omega
      rw [this]; exact c
    · exfalso
      by_cases e1 : f = 1
      · exact (f1.mp e1) a
      · exact f2 (by omega) b
  · right
    rcases RQ_num hF (X := X + col) (by omega) hlo hhi with ⟨a, _⟩ | ⟨_, b, _⟩ | ⟨a, b, F', w, r1, r2, r3, r4⟩
    · exact absurd t30 a
    · exact absurd hb b
    · exact ⟨C', F', v, q1, q2, q3, hb, w, r1, ⟨r2, r3, fun k hk => by rw [r4, va_up_ne _ _ (by omega)]⟩, r4⟩
/-- a word and a number -/
theorem wordJ {q : Nat} (hC : CQ x S B L T n C j) (h6 : C 408 6 = (q : Int)) (hn : n < 24) (hF : RQ m S2 B L F j) {X : Nat} (hX : X + 4 ≤ 2820) {k : Nat} (hk : 1 ≤ k ∧ k ≤ 29 ∧ k ≠ 2) {col : Nat} (hc : 1 ≤ col ∧ col ≤ 3) {lo hi : Int} (hlo : 0 ≤ lo) (hhi : hi ≤ 9999) : (∃ f j' C' F', (1 ≤ f ∧ f ≤ 6) ∧ (∀ K : Int → jSt → Option (Int × jSt), fcallv (cS x S C) ((x + 408 : Nat) : Int) 4 (f_X4_readKind ((x + 408 : Nat) : Int) (k : Int) (cS x S C)) (fun v S1 => if v = 0 then some (0, S1) else fcallv S1 ((x + 408 : Nat) : Int) 4 (f_X4_readNumber ((x + 408 : Nat) : Int) (col : Int) lo hi S1) (fun v S3 => if v = 0 then some (0, S3) else K v S3)) = some (0, cS x S C')) ∧ FX x S C f (psn B L j') C' ∧ f_X12_worded (m : Int) (wcd k) ((X + col : Nat) : Int) lo hi (rS m S2 F) = some ((f : Int), rS m S2 F') ∧ RI m S2 F' ∧ RFr X F F' ∧ F' 0 8 = (psn B L j' : Int)) ∨ (∃ C' F', (∀ K : Int → jSt → Option (Int × jSt), fcallv (cS x S C) ((x + 408 : Nat) : Int) 4 (f_X4_readKind ((x + 408 : Nat) : Int) (k : Int) (cS x S C)) (fun v S1 => if v = 0 then some (0, S1) else fcallv S1 ((x + 408 : Nat) : Int) 4 (f_X4_readNumber ((x + 408 : Nat) : Int) (col : Int) lo hi S1) (fun v S3 => if v = 0 then some (0, S3) else K v S3)) = K 1 (cS x S C')) ∧ CQ x S B L T n C' (j + 2) ∧ CFr n C C' ∧ C' 409 = va_up (C 409) (4 * n + col) (tvB B L (j + 1)) ∧ (lo ≤ tvB B L (j + 1) ∧ tvB B L (j + 1) ≤ hi) ∧ f_X12_worded (m : Int) (wcd k) ((X + col : Nat) : Int) lo hi (rS m S2 F) = some (0, rS m S2 F') ∧ RQ m S2 B L F' (j + 2) ∧ RFr X F F' ∧ F' 3 = va_up (F 3) (X + col) (tvB B L (j + 1))) := by
  have R := hF.1
  unfold f_X12_worded
  rw [r_cv R, s_isWord R hF.2.2 hk.1 hk.2.1 hk.2.2, fcall_some]
  have ek : kdX B L (psn B L j) = tkB B L j := rfl
  rw [ek]
  rcases CQ_kind hC h6 k with ⟨t, C', v, hx⟩ | ⟨t, good⟩
  · left
    refine ⟨1, j, C', F, by omega, fun K => ?_, hx, ?_, R, RFr_r X F, hF.2.2.1.2.1⟩
    · rw [cv_408 hC.1, v, fcall_some, if_pos rfl]
    · rw [if_neg t, if_pos rfl]; rfl
  · obtain ⟨C1, v1, c1, fr1, e1⟩ := good (by omega)
    obtain ⟨F1, w1, r1, l1⟩ := RQ_next hF
    rw [if_pos t, if_neg (by decide), r_cv R, w1, fcall_some, r_cv r1.1, f_id]
    have h6' : C1 408 6 = (q : Int) := by rw [fr1.2.1 6 (by decide), h6]
    rcases numJ c1 h6' hn r1 hX hc hlo hhi with ⟨f, C', hf, v2, hx, w2⟩ | ⟨C', F', v2, c2, fr2, e2, hb, w2, r2, rf2, e3⟩
    · left
      refine ⟨f, j + 1, C', F1, hf, fun K => ?_, FX_t fr1 hx, w2, r1.1, RFr_LX l1, r1.2.2.1.2.1⟩
      rw [cv_408 hC.1, v1, fcall_some, if_neg (by decide), cv_408 c1.1, v2, fcall_some, if_pos rfl]
    · right
      refine ⟨C', F', fun K => ?_, c2, CFr_t fr1 fr2, by rw [e2, e1], hb, w2, r2, RFr_t (RFr_LX l1) rf2, by rw [e3, l1.1 3 (by omega)]⟩
      rw [cv_408 hC.1, v1, fcall_some, if_neg (by decide), cv_408 c1.1, v2, fcall_some, if_neg (by decide)]
end DJ
