-- THE REFERENCE'S TOKENS
theorem ofL (n : Nat) : Int64.ofInt (n : Int) = lN n := Int64.ofInt_eq_ofNat
theorem gl_shl {a : Nat} (ha : a < 2 ^ 64) : lN a <<< ((nI 8).toInt64 &&& 63) = lN (a * 256) := by
  apply Int64.toBitVec_inj.mp
  rw [Int64.toBitVec_shiftLeft, show ((nI 8).toInt64 &&& 63).toBitVec.smod 64 = BitVec.ofNat 64 8 by decide +kernel]
  apply BitVec.eq_of_toNat_eq
  have hb : (lN a).toBitVec.toNat = a := Nat.mod_eq_of_lt ha
  have h : ((lN a).toBitVec <<< BitVec.ofNat 64 8).toNat = (a * 2 ^ 8) % 2 ^ 64 := by simp only [BitVec.shiftLeft_eq', BitVec.toNat_shiftLeft, hb, show (BitVec.ofNat 64 8).toNat = 8 from rfl, Nat.shiftLeft_eq]
  exact h
theorem gl_or (a b : Nat) : lN a ||| lN b = lN (a ||| b) := by
  apply Int64.toBitVec_inj.mp
  show (BitVec.ofNat 64 a ||| BitVec.ofNat 64 b) = BitVec.ofNat 64 (a ||| b)
  exact (BitVec.ofNat_or).symm
theorem wsh {v b : Nat} (hv : v < 18014398509481984) (hb : b < 256) : lor64 (lshl64 (v : Int) 8) (b : Int) = ((v * 256 + b : Nat) : Int) := by
  have e : lshl64 (v : Int) 8 = ((v * 256 : Nat) : Int) := by
    unfold lshl64
    rw [show (8 : Int) = ((8 : Nat) : Int) from rfl, ofN, ofL, gl_shl (by omega), pk_lT (by omega)]
  have e2 : v * 256 ||| b = v * 256 + b := by
    have := Nat.shiftLeft_add_eq_or_of_lt (i := 8) (b := b) hb v
    rw [Nat.shiftLeft_eq] at this
    exact this.symm
  rw [e]
  unfold lor64
  rw [ofL, ofL, gl_or, e2, pk_lT (by omega)]
theorem wshz {v b : Int} (hv : 0 ≤ v ∧ v < 18014398509481984) (hb : 0 ≤ b ∧ b < 256) : lor64 (lshl64 v 8) b = v * 256 + b := by
  obtain ⟨n, rfl⟩ : ∃ n : Nat, v = (n : Int) := ⟨v.toNat, by omega⟩
  obtain ⟨k, rfl⟩ : ∃ k : Nat, b = (k : Int) := ⟨b.toNat, by omega⟩
  rw [wsh (by omega) (by omega)]
  omega
theorem shr48 {v : Int} (h0 : 0 ≤ v) (hv : v < 4611686018427387904) : lshr64 v 48 = v / 281474976710656 := by
  obtain ⟨n, rfl⟩ : ∃ n : Nat, v = (n : Int) := ⟨v.toNat, by omega⟩
  unfold lshr64
  rw [show (48 : Int) = ((48 : Nat) : Int) from rfl, ofN, ofL]
  have hD : (((nI 48).toInt64 &&& 63).toBitVec.smod 64).toNat = 48 := by decide +kernel
  have e : (lN n >>> ((nI 48).toInt64 &&& 63)).toInt = (lN n).toInt >>> 48 := by
    rw [← hD]
    exact BitVec.toInt_sshiftRight ..
  rw [e, Int.shiftRight_eq_div_pow, pk_lT (by omega)]
  rfl
def sgnP (c : Int) : Bool := decide (c = 35 ∨ (40 ≤ c ∧ c ≤ 43) ∨ c = 45 ∨ c = 47 ∨ (58 ≤ c ∧ c ≤ 62))
theorem s_letB (c : Int) (S : jSt) : f_X12_isLetterByte c S = some (if isLetP c = true then 1 else 0, S) := by
  unfold f_X12_isLetterByte f_X12_isLetterByte_b12 f_X12_isLetterByte_b24 f_X12_isLetterByte_b28 f_X12_isLetterByte_b29 isLetP
  simp only [decide_eq_true_eq]
  (repeat' split) <;> first | rfl | (exfalso; omega)
theorem s_figB (c : Int) (S : jSt) : f_X12_isFigure c S = some (if isDigP c = true then 1 else 0, S) := by
  unfold f_X12_isFigure f_X12_isFigure_b16 f_X12_isFigure_b17 isDigP
  simp only [decide_eq_true_eq]
  (repeat' split) <;> first | rfl | (exfalso; omega)
theorem s_sgnB (c : Int) (S : jSt) : f_X12_isSign c S = some (if sgnP c = true then 1 else 0, S) := by
  unfold f_X12_isSign f_X12_isSign_b128 f_X12_isSign_b130 sgnP
  simp only [decide_eq_true_eq]
  by_cases h : 35 ≤ c ∧ c ≤ 62
  · have : c = 35 ∨ c = 36 ∨ c = 37 ∨ c = 38 ∨ c = 39 ∨ c = 40 ∨ c = 41 ∨ c = 42 ∨ c = 43 ∨ c = 44 ∨ c = 45 ∨ c = 46 ∨ c = 47 ∨ c = 48 ∨ c = 49 ∨ c = 50 ∨ c = 51 ∨ c = 52 ∨ c = 53 ∨ c = 54 ∨ c = 55 ∨ c = 56 ∨ c = 57 ∨ c = 58 ∨ c = 59 ∨ c = 60 ∨ c = 61 ∨ c = 62 := by omega
    rcases this with rfl | rfl | rfl | rfl | rfl | rfl | rfl | rfl | rfl | rfl | rfl | rfl | rfl | rfl | rfl | rfl | rfl | rfl | rfl | rfl | rfl | rfl | rfl | rfl | rfl | rfl | rfl | rfl <;> rfl
  · repeat rw [if_neg (by omega)]
def TP (F : Nat → Nat → Int) (B : Nat → Int) (L : Nat) : Prop := F 4 = B ∧ F 0 4 = (L : Int) ∧ L ≤ 300 ∧ ∀ i, i < L → 0 ≤ B i ∧ B i ≤ 255
def LX (F F' : Nat → Nat → Int) : Prop := (∀ i, i ≠ 0 → F' i = F i) ∧ ∀ k, (k < 7 ∨ 11 < k) → F' 0 k = F 0 k
def kdX (B : Nat → Int) (L p : Nat) : Nat := if p < L then kdA B L p else 44
def TokS (F : Nat → Nat → Int) (B : Nat → Int) (L p : Nat) : Prop := (p ≤ L ∧ F 0 8 = (p : Int) ∧ F 0 7 = (tnd B L p : Int)) ∧ TkR (F 0 9) (F 0 10) (F 0 11) (kdX B L p) (vlA B L p) ∧ (F 0 9 = 2 ↔ p < L ∧ isLetP (B p) = true)
section NT
variable {m : Nat} {S : jSt} {F F' : Nat → Nat → Int} {B : Nat → Int} {L : Nat}
theorem LX_r (F : Nat → Nat → Int) : LX F F := ⟨fun _ _ => rfl, fun _ _ => rfl⟩
theorem LX_t {F1 F2 : Nat → Nat → Int} (h1 : LX F F1) (h2 : LX F1 F2) : LX F F2 := ⟨fun i hi => (h2.1 i hi).trans (h1.1 i hi), fun k hk => (h2.2 k hk).trans (h1.2 k hk)⟩
theorem LX_p (F : Nat → Nat → Int) {k : Nat} (z : Int) (hk : 7 ≤ k ∧ k ≤ 11) : LX F (va_up F 0 (va_up (F 0) k z)) := by
  refine ⟨fun i hi => va_up_ne _ _ hi, fun i hi => ?_⟩
  rw [va_up_self, va_up_ne _ _ (by omega)]
theorem LX_RI (h : LX F F') (R : RI m S F) : RI m S F' := by
  refine ⟨R.1, ?_⟩
  unfold RIr
  rw [h.2 0 (by omega), h.2 1 (by omega), h.2 2 (by omega), h.2 3 (by omega), h.2 15 (by omega), h.2 20 (by omega), h.2 21 (by omega), h.2 22 (by omega), h.2 25 (by omega), h.2 26 (by omega), h.2 27 (by omega)]
  exact R.2
theorem TP_LX (t : TP F B L) (h : LX F F') : TP F' B L := ⟨(h.1 4 (by omega)).trans t.1, (h.2 4 (by omega)).trans t.2.1, t.2.2⟩
theorem s_byteAt (R : RI m S F) (t : TP F B L) (p : Nat) : f_X12_byteAt (m : Int) (p : Int) (rS m S F) = some (if p < L then B p else -1, rS m S F) := by
  obtain ⟨t1, t2, t3, t4⟩ := t
  unfold f_X12_byteAt f_X12_byteAt_b18
  rw [r_g R, t2]
  by_cases h : p < L
  · rw [if_neg (by omega), if_pos h, r_tp R, ra_4 R (by omega) (by omega), toNat_z, t1]
  · rw [if_pos (by omega), if_neg h]
theorem up0 (F : Nat → Nat → Int) (k : Nat) (z : Int) (k' : Nat) : va_up F 0 (va_up (F 0) k z) 0 k' = if k' = k then z else F 0 k' := by
  rw [va_up_self]
  rfl
theorem nt85 (p : Nat) : ∀ (n : Nat) (F : Nat → Nat → Int) (q : Nat), RI m S F → TP F B L → F 0 7 = (q : Int) → p ≤ q → q ≤ L → (∀ i, p ≤ i → i < q → isDigP (B i) = true) → F 0 10 = rN B p (q - p) → L - q < n → ∃ F', jrep (fun _ _ => none) (fun r => f_X12_nextToken_b85B r) n (m : Int) (rS m S F) = some (0, rS m S F') ∧ LX F F' ∧ (F' 0 8 = F 0 8 ∧ F' 0 9 = F 0 9 ∧ F' 0 11 = F 0 11) ∧ F' 0 7 = (rE isDigP B L q : Int) ∧ F' 0 10 = rN B p (rE isDigP B L q - p) := by
  intro n
  induction n with
  | zero => intro F q _ _ _ _ _ _ _ h; omega
  | succ n ih =>
    intro F q R t h7 hpq hq hd h10 hn
    rw [jrep_s]
    unfold f_X12_nextToken_b85B f_X12_nextToken_b310
    rw [r_g R, h7, r_cv R, s_byteAt R t, fcall_some, s_figB, fcall_some]
    by_cases hL : q < L
    · rw [if_pos hL]
      by_cases hdq : isDigP (B q) = true
      · have hrb := (rN_c B p (q - p) (fun i hi => by
          have := hd (p + i) (by omega) (by omega)
          unfold isDigP at this
          exact of_decide_eq_true this)).1
        have hbq : 48 ≤ B q ∧ B q ≤ 57 := by
          unfold isDigP at hdq
          exact of_decide_eq_true hdq
        have en : rN B p (q + 1 - p) = if rN B p (q - p) ≤ 99999 then 10 * rN B p (q - p) + B q - 48 else rN B p (q - p) := by
          rw [show q + 1 - p = (q - p) + 1 by omega, rN, show p + (q - p) = q by omega]
        have step : ∀ z, z = rN B p (q + 1 - p) → ∃ F', f_X12_nextToken_b135 (jrep (fun _ _ => none) (fun r => f_X12_nextToken_b85B r) n) (m : Int) (m : Int) z (rS m S F) = some (0, rS m S F') ∧ LX F F' ∧ (F' 0 8 = F 0 8 ∧ F' 0 9 = F 0 9 ∧ F' 0 11 = F 0 11) ∧ F' 0 7 = (rE isDigP B L (q + 1) : Int) ∧ F' 0 10 = rN B p (rE isDigP B L (q + 1) - p) := by
          intro z hz
          unfold f_X12_nextToken_b135
          have l1 := LX_p F (k := 10) z (by omega)
          have R1 := LX_RI l1 R
          have l2 := LX_p (va_up F 0 (va_up (F 0) 10 z)) (k := 7) ((q + 1 : Nat) : Int) (by omega)
          have R2 := LX_RI l2 R1
          have e7 : va_up F 0 (va_up (F 0) 10 z) 0 7 = (q : Int) := by rw [up0, if_neg (by omega), h7]
          rw [r_p R, r_g R1, e7, w32_of (by have := t.2.2.1; omega) (by have := t.2.2.1; omega), r_p R1, zs]
          obtain ⟨F', v, x1, ⟨x2, x3, x3'⟩, x4, x5⟩ := ih (va_up (va_up F 0 (va_up (F 0) 10 z)) 0 (va_up (va_up F 0 (va_up (F 0) 10 z) 0) 7 ((q + 1 : Nat) : Int))) (q + 1) R2 (TP_LX (TP_LX t l1) l2) (by rw [up0, if_pos rfl]) (by omega) (by omega) (fun i h1 h2 => by
            by_cases e : i = q
            · rw [e]; exact hdq
            · exact hd i h1 (by omega)) (by rw [up0, if_neg (by omega), up0, if_pos rfl, hz]) (by omega)
          refine ⟨F', v, LX_t (LX_t l1 l2) x1, ⟨?_, ?_, ?_⟩, x4, x5⟩
          · rw [x2, up0, if_neg (by omega), up0, if_neg (by omega)]
          · rw [x3, up0, if_neg (by omega), up0, if_neg (by omega)]
          · rw [x3', up0, if_neg (by omega), up0, if_neg (by omega)]
        rw [if_pos hdq, if_neg (by decide), r_g R, h10, rE_1 hL hdq]
        by_cases h9 : rN B p (q - p) ≤ 99999
        · rw [if_pos h9, r_g R, h10, r_g R, h7, r_cv R, s_byteAt R t, fcall_some, if_pos hL, w32_of (z := 10 * rN B p (q - p)) (by omega) (by omega), w32_of (z := 10 * rN B p (q - p) + B q) (by omega) (by omega), w32_of (by omega) (by omega)]
          exact step _ (by rw [en, if_pos h9])
        · rw [if_neg h9, r_g R, h10]
          exact step _ (by rw [en, if_neg h9])
      · rw [if_neg hdq, if_pos rfl, rE_0 (Or.inr (by simpa using hdq))]
        exact ⟨F, rfl, LX_r F, ⟨rfl, rfl, rfl⟩, h7, h10⟩
    · rw [if_neg hL, show isDigP (-1) = false from by decide, if_pos (by decide), rE_0 (Or.inl (by omega))]
      exact ⟨F, rfl, LX_r F, ⟨rfl, rfl, rfl⟩, h7, h10⟩
theorem rW_b (B : Nat → Int) (p : Nat) : ∀ n, (∀ i, i < n → 0 ≤ B (p + i) ∧ B (p + i) ≤ 255) → 0 ≤ rW B p n ∧ rW B p n ≤ 1152921504606846976
  | 0, _ => by unfold rW; omega
  | n + 1, h => by
    have ih := rW_b B p n (fun i hi => h i (by omega))
    have hb := h n (by omega)
    unfold rW
    split <;> omega
theorem nt168 (p : Nat) : ∀ (n : Nat) (F : Nat → Nat → Int) (q : Nat), RI m S F → TP F B L → F 0 7 = (q : Int) → p ≤ q → q ≤ L → F 0 11 = rW B p (q - p) → L - q < n → ∃ F', jrep (fun _ _ => none) (fun r => f_X12_nextToken_b168B r) n (m : Int) (rS m S F) = some (0, rS m S F') ∧ LX F F' ∧ (F' 0 8 = F 0 8 ∧ F' 0 9 = F 0 9) ∧ F' 0 7 = (rE isLetP B L q : Int) ∧ F' 0 11 = rW B p (rE isLetP B L q - p) := by
  intro n
  induction n with
  | zero => intro F q _ _ _ _ _ _ h; omega
  | succ n ih =>
    intro F q R t h7 hpq hq h11 hn
    rw [jrep_s]
    unfold f_X12_nextToken_b168B f_X12_nextToken_b310
    rw [r_g R, h7, r_cv R, s_byteAt R t, fcall_some, s_letB, fcall_some]
    by_cases hL : q < L
    · rw [if_pos hL]
      by_cases hdq : isLetP (B q) = true
      · have hrb := rW_b B p (q - p) (fun i hi => t.2.2.2 (p + i) (by omega))
        have hbq := t.2.2.2 q hL
        have en : rW B p (q + 1 - p) = if rW B p (q - p) < 281474976710656 then rW B p (q - p) * 256 + B q else 1152921504606846976 := by
          rw [show q + 1 - p = (q - p) + 1 by omega, rW, show p + (q - p) = q by omega]
        have step : ∀ z, z = rW B p (q + 1 - p) → ∃ F', f_X12_nextToken_b218 (jrep (fun _ _ => none) (fun r => f_X12_nextToken_b168B r) n) (m : Int) (m : Int) z (rS m S F) = some (0, rS m S F') ∧ LX F F' ∧ (F' 0 8 = F 0 8 ∧ F' 0 9 = F 0 9) ∧ F' 0 7 = (rE isLetP B L (q + 1) : Int) ∧ F' 0 11 = rW B p (rE isLetP B L (q + 1) - p) := by
          intro z hz
          unfold f_X12_nextToken_b218
          have l1 := LX_p F (k := 11) z (by omega)
          have R1 := LX_RI l1 R
          have l2 := LX_p (va_up F 0 (va_up (F 0) 11 z)) (k := 7) ((q + 1 : Nat) : Int) (by omega)
          have R2 := LX_RI l2 R1
          have e7 : va_up F 0 (va_up (F 0) 11 z) 0 7 = (q : Int) := by rw [up0, if_neg (by omega), h7]
          rw [r_p R, r_g R1, e7, w32_of (by have := t.2.2.1; omega) (by have := t.2.2.1; omega), r_p R1, zs]
          obtain ⟨F', v, x1, ⟨x2, x3⟩, x4, x5⟩ := ih (va_up (va_up F 0 (va_up (F 0) 11 z)) 0 (va_up (va_up F 0 (va_up (F 0) 11 z) 0) 7 ((q + 1 : Nat) : Int))) (q + 1) R2 (TP_LX (TP_LX t l1) l2) (by rw [up0, if_pos rfl]) (by omega) (by omega) (by rw [up0, if_neg (by omega), up0, if_pos rfl, hz]) (by omega)
          refine ⟨F', v, LX_t (LX_t l1 l2) x1, ⟨?_, ?_⟩, x4, x5⟩
          · rw [x2, up0, if_neg (by omega), up0, if_neg (by omega)]
          · rw [x3, up0, if_neg (by omega), up0, if_neg (by omega)]
        rw [if_pos hdq, if_neg (by decide), r_g R, h11, rE_1 hL hdq, shr48 hrb.1 (by omega)]
        by_cases h9 : rW B p (q - p) < 281474976710656
        · rw [if_pos (by omega), r_g R, h11, r_g R, h7, r_cv R, s_byteAt R t, fcall_some, if_pos hL, wshz (by omega) (by omega)]
          exact step _ (by rw [en, if_pos h9])
        · rw [if_neg (by omega)]
          exact step _ (by rw [en, if_neg h9])
      · rw [if_neg hdq, if_pos rfl, rE_0 (Or.inr (by simpa using hdq))]
        exact ⟨F, rfl, LX_r F, ⟨rfl, rfl⟩, h7, h11⟩
    · rw [if_neg hL, show isLetP (-1) = false from by decide, if_pos (by decide), rE_0 (Or.inl (by omega))]
      exact ⟨F, rfl, LX_r F, ⟨rfl, rfl⟩, h7, h11⟩
end NT
