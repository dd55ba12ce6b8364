-- a deed, whole, on both sides
def srt (k : Nat) : Nat := if k ≤ 3 then k - 1 else if k = 9 then 3 else if k = 4 then 4 else if k = 10 then 5 else if k ≤ 7 then k + 1 else if k = 8 then 9 else 10
def ncl (k : Nat) : Nat := if k ≤ 3 then 0 else if k = 9 ∨ k = 10 then 3 else if k = 8 then 2 else 1
def DJR (x m : Nat) (S S2 : jSt) (B : Nat → Int) (L T n X k : Nat) (C F : Nat → Nat → Int) (j : Nat) (o1 o2 : Option (Int × jSt)) : Prop :=
  (∃ f j' C' F', (1 ≤ f ∧ f ≤ 6) ∧ o1 = some (0, cS x S C') ∧ FX x S C f (psn B L j' : Nat) C' ∧ o2 = some ((f : Int), rS m S2 F') ∧ RI m S2 F' ∧ RFr X F F' ∧ F' 0 8 = (psn B L j' : Int)) ∨
  (∃ (v : Nat → Int) (j' : Nat) (C' F' : Nat → Nat → Int), o1 = some (1, cS x S C') ∧ CQ x S B L T n C' j' ∧ CFr n C C' ∧ (∀ c, 1 ≤ c → c ≤ ncl k → C' 409 (4 * n + c) = v c) ∧ (k = 11 → 1 ≤ v 1 ∧ v 1 ≤ 60) ∧ o2 = some (0, rS m S2 F') ∧ RQ m S2 B L F' j' ∧ RFr X F F' ∧ (∀ c, 1 ≤ c → c ≤ ncl k → F' 3 (X + c) = v c) ∧ j < j')
section DK
variable {x m : Nat} {S S2 : jSt} {C F : Nat → Nat → Int} {B : Nat → Int} {L T n j : Nat}
theorem w32X {X c : Nat} (hX : X + 4 ≤ 2820) (hc : c ≤ 3) : w32 ((X : Int) + (c : Int)) = ((X + c : Nat) : Int) := by
  rw [w32_of (by omega) (by omega)]
  omega
theorem d_one {q : Nat} (hC : CQ x S B L T n C j) (h6 : C 408 6 = (q : Int)) (hn : n < 24) (hF : RQ m S2 B L F j) {X : Nat} (hX : X + 4 ≤ 2820) {k : Nat} (hk : ncl k = 1) {lo hi : Int} (hlo : 0 ≤ lo) (hhi : hi ≤ 9999) (h11 : k = 11 → 1 ≤ lo ∧ hi ≤ 60) : DJR x m S S2 B L T n X k C F j (fcallv (cS x S C) ((x + 408 : Nat) : Int) 4 (f_X4_readNumber ((x + 408 : Nat) : Int) 1 lo hi (cS x S C)) (fun v1 S2 => some (v1, S2))) (fcallv (rS m S2 F) (m : Int) 12 (f_X12_figure (m : Int) (w32 ((X : Int) + 1)) lo hi (rS m S2 F)) (fun v1 S2 => some (v1, S2))) := by
  rw [cv_408 hC.1, r_cv hF.1, f_id, f_id, show (1 : Int) = ((1 : Nat) : Int) from rfl, w32X hX (by omega)]
  rcases numJ hC h6 hn hF hX (col := 1) (by omega) hlo hhi with ⟨f, C', hf, v, hx, w⟩ | ⟨C', F', v, c1, fr, e1, hb, w, r1, rf, e2⟩
  · exact Or.inl ⟨f, j, C', F, hf, v, hx, w, hF.1, RFr_r X F, hF.2.2.1.2.1⟩
  · refine Or.inr ⟨fun _ => tvB B L j, j + 1, C', F', v, c1, fr, fun c h1 h2 => ?_, fun h => by have := h11 h; show 1 ≤ tvB B L j ∧ tvB B L j ≤ 60; omega, w, r1, rf, fun c h1 h2 => ?_, by omega⟩
    · have : c = 1 := by omega
      subst this
      rw [e1, va_up_self]
    · have : c = 1 := by omega
      subst this
      rw [e2, va_up_self]
theorem d_buy {q : Nat} (hC : CQ x S B L T n C j) (h6 : C 408 6 = (q : Int)) (hn : n < 24) (hF : RQ m S2 B L F j) {X : Nat} (hX : X + 4 ≤ 2820) : DJR x m S S2 B L T n X 8 C F j (f_X4_readDeed ((x + 408 : Nat) : Int) 8 (cS x S C)) (f_X12_buyClause (m : Int) (X : Int) (rS m S2 F)) := by
  unfold f_X4_readDeed f_X4_readDeed_b206 f_X4_readDeed_b207 f_X12_buyClause f_X12_buyClause_b39
  rw [if_neg (by decide), if_neg (by decide), if_neg (by decide), if_neg (by decide), if_pos rfl, cv_408 hC.1, r_cv hF.1, show (1 : Int) = ((1 : Nat) : Int) from rfl, w32X hX (by omega)]
  rcases numJ hC h6 hn hF hX (col := 1) (lo := 0) (hi := 11) (by omega) (by omega) (by omega) with ⟨f, C', hf, v, hx, w⟩ | ⟨C1, F1, v, c1, fr, e1, hb, w, r1, rf, e2⟩
  · rw [v, w, fcall_some, fcall_some, if_pos rfl, if_neg (by omega)]
    exact Or.inl ⟨f, j, C', F, hf, rfl, hx, rfl, hF.1, RFr_r X F, hF.2.2.1.2.1⟩
  · rw [v, w, fcall_some, fcall_some, if_neg (by decide), if_pos rfl, cw_20, fcall_some, r_cv r1.1, f_id, show (2 : Int) = ((2 : Nat) : Int) from rfl, w32X hX (by omega)]
    have h6' : C1 408 6 = (q : Int) := by rw [fr.2.1 6 (by decide), h6]
    rcases wordJ c1 h6' hn r1 hX (k := 20) (by omega) (col := 2) (lo := 0) (hi := 999) (by omega) (by omega) (by omega) with ⟨f, j', C', F', hf, v2, hx, w2, R2, rf2, e8⟩ | ⟨C', F', v2, c2, fr2, e3, hb2, w2, r2, rf2, e4⟩
    · exact Or.inl ⟨f, j', C', F', hf, v2 _, FX_t fr hx, w2, R2, RFr_t rf rf2, e8⟩
    · refine Or.inr ⟨fun c => if c = 1 then tvB B L j else tvB B L (j + 1 + 1), j + 1 + 2, C', F', v2 _, c2, CFr_t fr fr2, fun c h1 h2 => ?_, fun h => by omega, w2, r2, RFr_t rf rf2, fun c h1 h2 => ?_, by omega⟩
      · have h2' : c ≤ 2 := h2
        rw [e3]
        by_cases ec : c = 2
        · subst ec; rw [va_up_self]; rfl
        · have : c = 1 := by omega
          subst this
          rw [va_up_ne _ _ (by omega), e1, va_up_self]; rfl
      · have h2' : c ≤ 2 := h2
        rw [e4]
        by_cases ec : c = 2
        · subst ec; rw [va_up_self]; rfl
        · have : c = 1 := by omega
          subst this
          rw [va_up_ne _ _ (by omega), e2, va_up_self]; rfl
theorem d_lot {q : Nat} (hC : CQ x S B L T n C j) (h6 : C 408 6 = (q : Int)) (hn : n < 24) (hF : RQ m S2 B L F j) {X : Nat} (hX : X + 4 ≤ 2820) : DJR x m S S2 B L T n X 9 C F j (f_X4_readDeed ((x + 408 : Nat) : Int) 9 (cS x S C)) (f_X12_lotClause (m : Int) (X : Int) (rS m S2 F)) := by
  unfold f_X4_readDeed f_X4_readDeed_b102 f_X4_readDeed_b103 f_X12_lotClause f_X12_lotClause_b38 f_X12_lotClause_b71
  rw [if_neg (by decide), if_neg (by decide), if_neg (by decide), if_neg (by decide), if_neg (by decide), if_pos rfl, cv_408 hC.1, r_cv hF.1, show (1 : Int) = ((1 : Nat) : Int) from rfl, w32X hX (by omega)]
  rcases numJ hC h6 hn hF hX (col := 1) (lo := 0) (hi := 5) (by omega) (by omega) (by omega) with ⟨f, C', hf, v, hx, w⟩ | ⟨C1, F1, v, c1, fr, e1, hb, w, r1, rf, e2⟩
  · rw [v, w, fcall_some, fcall_some, if_pos rfl, if_neg (by omega), if_neg (by omega)]
    exact Or.inl ⟨f, j, C', F, hf, rfl, hx, rfl, hF.1, RFr_r X F, hF.2.2.1.2.1⟩
  · rw [v, w, fcall_some, fcall_some, if_neg (by decide), if_pos rfl, cw_12, fcall_some, r_cv r1.1, show (2 : Int) = ((2 : Nat) : Int) from rfl, w32X hX (by omega)]
    have h6' : C1 408 6 = (q : Int) := by rw [fr.2.1 6 (by decide), h6]
    rcases wordJ c1 h6' hn r1 hX (k := 12) (by omega) (col := 2) (lo := 0) (hi := 99) (by omega) (by omega) (by omega) with ⟨f, j', C', F', hf, v2, hx, w2, R2, rf2, e8⟩ | ⟨C2, F2, v2, c2, fr2, e3, hb2, w2, r2, rf2, e4⟩
    · rw [w2, fcall_some, if_neg (by omega)]
      exact Or.inl ⟨f, j', C', F', hf, v2 _, FX_t fr hx, rfl, R2, RFr_t rf rf2, e8⟩
    · rw [w2, fcall_some, if_pos rfl, cw_13, fcall_some, r_cv r2.1, f_id, show (3 : Int) = ((3 : Nat) : Int) from rfl, w32X hX (by omega)]
      have h6'' : C2 408 6 = (q : Int) := by rw [fr2.2.1 6 (by decide), h6']
      rcases wordJ c2 h6'' hn r2 hX (k := 13) (by omega) (col := 3) (lo := 1) (hi := 9) (by omega) (by omega) (by omega) with ⟨f, j', C', F', hf, v3, hx, w3, R3, rf3, e8⟩ | ⟨C', F', v3, c3, fr3, e5, hb3, w3, r3, rf3, e6⟩
      · exact Or.inl ⟨f, j', C', F', hf, (v2 _).trans (v3 _), FX_t fr (FX_t fr2 hx), w3, R3, RFr_t rf (RFr_t rf2 rf3), e8⟩
      · refine Or.inr ⟨fun c => if c = 1 then tvB B L j else if c = 2 then tvB B L (j + 1 + 1) else tvB B L (j + 1 + 2 + 1), j + 1 + 2 + 2, C', F', (v2 _).trans (v3 _), c3, CFr_t fr (CFr_t fr2 fr3), fun c h1 h2 => ?_, fun h => by omega, w3, r3, RFr_t rf (RFr_t rf2 rf3), fun c h1 h2 => ?_, by omega⟩
        · have h2' : c ≤ 3 := h2
          rw [e5]
          by_cases ec : c = 3
          · subst ec; rw [va_up_self]; rfl
          rw [va_up_ne _ _ (by omega), e3]
          by_cases ec2 : c = 2
          · subst ec2; rw [va_up_self]; rfl
          · have : c = 1 := by omega
            subst this
            rw [va_up_ne _ _ (by omega), e1, va_up_self]; rfl
        · have h2' : c ≤ 3 := h2
          rw [e6]
          by_cases ec : c = 3
          · subst ec; rw [va_up_self]; rfl
          rw [va_up_ne _ _ (by omega), e4]
          by_cases ec2 : c = 2
          · subst ec2; rw [va_up_self]; rfl
          · have : c = 1 := by omega
            subst this
            rw [va_up_ne _ _ (by omega), e2, va_up_self]; rfl
theorem d_want {q : Nat} (hC : CQ x S B L T n C j) (h6 : C 408 6 = (q : Int)) (hn : n < 24) (hF : RQ m S2 B L F j) {X : Nat} (hX : X + 4 ≤ 2820) : DJR x m S S2 B L T n X 10 C F j (f_X4_readDeed ((x + 408 : Nat) : Int) 10 (cS x S C)) (f_X12_wantClause (m : Int) (X : Int) (rS m S2 F)) := by
  unfold f_X4_readDeed f_X4_readDeed_b168 f_X4_readDeed_b169 f_X12_wantClause f_X12_wantClause_b33 f_X12_wantClause_b57
  rw [if_neg (by decide), if_neg (by decide), if_neg (by decide), if_neg (by decide), if_neg (by decide), if_neg (by decide), if_pos rfl, cv_408 hC.1, r_cv hF.1, show (1 : Int) = ((1 : Nat) : Int) from rfl, w32X hX (by omega)]
  rcases numJ hC h6 hn hF hX (col := 1) (lo := 0) (hi := 99) (by omega) (by omega) (by omega) with ⟨f, C', hf, v, hx, w⟩ | ⟨C1, F1, v, c1, fr, e1, hb, w, r1, rf, e2⟩
  · rw [v, w, fcall_some, fcall_some, if_pos rfl, if_neg (by omega), if_neg (by omega)]
    exact Or.inl ⟨f, j, C', F, hf, rfl, hx, rfl, hF.1, RFr_r X F, hF.2.2.1.2.1⟩
  · rw [v, w, fcall_some, fcall_some, if_neg (by decide), if_pos rfl, cw_18, fcall_some, r_cv r1.1, show (2 : Int) = ((2 : Nat) : Int) from rfl, w32X hX (by omega)]
    have h6' : C1 408 6 = (q : Int) := by rw [fr.2.1 6 (by decide), h6]
    rcases wordJ c1 h6' hn r1 hX (k := 18) (by omega) (col := 2) (lo := 0) (hi := 11) (by omega) (by omega) (by omega) with ⟨f, j', C', F', hf, v2, hx, w2, R2, rf2, e8⟩ | ⟨C2, F2, v2, c2, fr2, e3, hb2, w2, r2, rf2, e4⟩
    · rw [w2, fcall_some, if_neg (by omega)]
      exact Or.inl ⟨f, j', C', F', hf, v2 _, FX_t fr hx, rfl, R2, RFr_t rf rf2, e8⟩
    · rw [w2, fcall_some, if_pos rfl, cw_19, fcall_some, r_cv r2.1, f_id, show (3 : Int) = ((3 : Nat) : Int) from rfl, w32X hX (by omega)]
      have h6'' : C2 408 6 = (q : Int) := by rw [fr2.2.1 6 (by decide), h6']
      rcases wordJ c2 h6'' hn r2 hX (k := 19) (by omega) (col := 3) (lo := 0) (hi := 4) (by omega) (by omega) (by omega) with ⟨f, j', C', F', hf, v3, hx, w3, R3, rf3, e8⟩ | ⟨C', F', v3, c3, fr3, e5, hb3, w3, r3, rf3, e6⟩
      · exact Or.inl ⟨f, j', C', F', hf, (v2 _).trans (v3 _), FX_t fr (FX_t fr2 hx), w3, R3, RFr_t rf (RFr_t rf2 rf3), e8⟩
      · refine Or.inr ⟨fun c => if c = 1 then tvB B L j else if c = 2 then tvB B L (j + 1 + 1) else tvB B L (j + 1 + 2 + 1), j + 1 + 2 + 2, C', F', (v2 _).trans (v3 _), c3, CFr_t fr (CFr_t fr2 fr3), fun c h1 h2 => ?_, fun h => by omega, w3, r3, RFr_t rf (RFr_t rf2 rf3), fun c h1 h2 => ?_, by omega⟩
        · have h2' : c ≤ 3 := h2
          rw [e5]
          by_cases ec : c = 3
          · subst ec; rw [va_up_self]; rfl
          rw [va_up_ne _ _ (by omega), e3]
          by_cases ec2 : c = 2
          · subst ec2; rw [va_up_self]; rfl
          · have : c = 1 := by omega
            subst this
            rw [va_up_ne _ _ (by omega), e1, va_up_self]; rfl
        · have h2' : c ≤ 3 := h2
          rw [e6]
          by_cases ec : c = 3
          · subst ec; rw [va_up_self]; rfl
          rw [va_up_ne _ _ (by omega), e4]
          by_cases ec2 : c = 2
          · subst ec2; rw [va_up_self]; rfl
          · have : c = 1 := by omega
            subst this
            rw [va_up_ne _ _ (by omega), e2, va_up_self]; rfl
/-- any deed -/
theorem deedJ {q : Nat} (hC : CQ x S B L T n C j) (h6 : C 408 6 = (q : Int)) (hn : n < 24) (hF : RQ m S2 B L F j) {X : Nat} (hX : X + 4 ≤ 2820) {k : Nat} (hk : 4 ≤ k ∧ k ≤ 11) : DJR x m S S2 B L T n X k C F j (f_X4_readDeed ((x + 408 : Nat) : Int) (k : Int) (cS x S C)) (f_X12_body (m : Int) (srt k : Int) (X : Int) (rS m S2 F)) := by
  have hk' : k = 4 ∨ k = 5 ∨ k = 6 ∨ k = 7 ∨ k = 8 ∨ k = 9 ∨ k = 10 ∨ k = 11 := by omega
  rcases hk' with rfl | rfl | rfl | rfl | rfl | rfl | rfl | rfl
  · exact d_one hC h6 hn hF hX (k := 4) rfl (by omega) (by omega) (fun h => by omega)
  · exact d_one hC h6 hn hF hX (k := 5) rfl (by omega) (by omega) (fun h => by omega)
  · exact d_one hC h6 hn hF hX (k := 6) rfl (by omega) (by omega) (fun h => by omega)
  · exact d_one hC h6 hn hF hX (k := 7) rfl (by omega) (by omega) (fun h => by omega)
  · have e : f_X12_body (m : Int) (srt 8 : Int) (X : Int) (rS m S2 F) = f_X12_buyClause (m : Int) (X : Int) (rS m S2 F) := by
      show fcallv (rS m S2 F) (m : Int) 12 (f_X12_buyClause (m : Int) (X : Int) (rS m S2 F)) (fun v11 S12 => some (v11, S12)) = _
      rw [r_cv hF.1, f_id]
    rw [e]
    exact d_buy hC h6 hn hF hX
  · have e : f_X12_body (m : Int) (srt 9 : Int) (X : Int) (rS m S2 F) = f_X12_lotClause (m : Int) (X : Int) (rS m S2 F) := by
      show fcallv (rS m S2 F) (m : Int) 12 (f_X12_lotClause (m : Int) (X : Int) (rS m S2 F)) (fun v11 S12 => some (v11, S12)) = _
      rw [r_cv hF.1, f_id]
    rw [e]
    exact d_lot hC h6 hn hF hX
  · have e : f_X12_body (m : Int) (srt 10 : Int) (X : Int) (rS m S2 F) = f_X12_wantClause (m : Int) (X : Int) (rS m S2 F) := by
      show fcallv (rS m S2 F) (m : Int) 12 (f_X12_wantClause (m : Int) (X : Int) (rS m S2 F)) (fun v11 S12 => some (v11, S12)) = _
      rw [r_cv hF.1, f_id]
    rw [e]
    exact d_want hC h6 hn hF hX
  · exact d_one hC h6 hn hF hX (k := 11) rfl (by omega) (by omega) (fun _ => by omega)
end DK
