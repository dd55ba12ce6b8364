-- THE REFERENCE'S PILES: its state while a law is read
theorem s_w2 {a b : Int} (ha : 0 ≤ a ∧ a < 256) (hb : 0 ≤ b ∧ b < 256) (S : jSt) : f_X12_w2 a b S = some (a * 256 + b, S) := by
  unfold f_X12_w2
  rw [wshz (by omega) hb]
theorem s_w3 {a b c : Int} (ha : 0 ≤ a ∧ a < 256) (hb : 0 ≤ b ∧ b < 256) (hc : 0 ≤ c ∧ c < 256) (S : jSt) : f_X12_w3 a b c S = some ((a * 256 + b) * 256 + c, S) := by
  unfold f_X12_w3
  rw [s_w2 ha hb, fcall_some, wshz (by omega) hc]
theorem s_w4 {a b c d : Int} (ha : 0 ≤ a ∧ a < 256) (hb : 0 ≤ b ∧ b < 256) (hc : 0 ≤ c ∧ c < 256) (hd : 0 ≤ d ∧ d < 256) (S : jSt) : f_X12_w4 a b c d S = some (((a * 256 + b) * 256 + c) * 256 + d, S) := by
  unfold f_X12_w4
  rw [s_w3 ha hb hc, fcall_some, wshz (by omega) hd]
theorem s_w5 {a b c d e : Int} (ha : 0 ≤ a ∧ a < 256) (hb : 0 ≤ b ∧ b < 256) (hc : 0 ≤ c ∧ c < 256) (hd : 0 ≤ d ∧ d < 256) (he : 0 ≤ e ∧ e < 256) (S : jSt) : f_X12_w5 a b c d e S = some ((((a * 256 + b) * 256 + c) * 256 + d) * 256 + e, S) := by
  unfold f_X12_w5
  rw [s_w4 ha hb hc hd, fcall_some, wshz (by omega) he]
theorem s_w6 {a b c d e f : Int} (ha : 0 ≤ a ∧ a < 256) (hb : 0 ≤ b ∧ b < 256) (hc : 0 ≤ c ∧ c < 256) (hd : 0 ≤ d ∧ d < 256) (he : 0 ≤ e ∧ e < 256) (hf : 0 ≤ f ∧ f < 256) (S : jSt) : f_X12_w6 a b c d e f S = some (((((a * 256 + b) * 256 + c) * 256 + d) * 256 + e) * 256 + f, S) := by
  unfold f_X12_w6
  rw [s_w5 ha hb hc hd he, fcall_some, wshz (by omega) hf]
theorem cw_1 (S : jSt) : f_X12_w4 98 105 100 115 S = some (wcd 1, S) := (s_w4 (by omega) (by omega) (by omega) (by omega) S).trans (congrArg (fun z => some (z, S)) (by decide +kernel))
theorem cw_3 (S : jSt) : f_X12_w5 119 97 114 109 115 S = some (wcd 3, S) := (s_w5 (by omega) (by omega) (by omega) (by omega) (by omega) S).trans (congrArg (fun z => some (z, S)) (by decide +kernel))
theorem cw_4 (S : jSt) : f_X12_w6 98 105 100 100 101 114 S = some (wcd 4, S) := (s_w6 (by omega) (by omega) (by omega) (by omega) (by omega) (by omega) S).trans (congrArg (fun z => some (z, S)) (by decide +kernel))
theorem cw_5 (S : jSt) : f_X12_w4 115 101 108 108 S = some (wcd 5, S) := (s_w4 (by omega) (by omega) (by omega) (by omega) S).trans (congrArg (fun z => some (z, S)) (by decide +kernel))
theorem cw_6 (S : jSt) : f_X12_w5 99 97 114 114 121 S = some (wcd 6, S) := (s_w5 (by omega) (by omega) (by omega) (by omega) (by omega) S).trans (congrArg (fun z => some (z, S)) (by decide +kernel))
theorem cw_7 (S : jSt) : f_X12_w4 98 117 114 110 S = some (wcd 7, S) := (s_w4 (by omega) (by omega) (by omega) (by omega) S).trans (congrArg (fun z => some (z, S)) (by decide +kernel))
theorem cw_8 (S : jSt) : f_X12_w3 98 117 121 S = some (wcd 8, S) := (s_w3 (by omega) (by omega) (by omega) S).trans (congrArg (fun z => some (z, S)) (by decide +kernel))
theorem cw_9 (S : jSt) : f_X12_w3 108 111 116 S = some (wcd 9, S) := (s_w3 (by omega) (by omega) (by omega) S).trans (congrArg (fun z => some (z, S)) (by decide +kernel))
theorem cw_10 (S : jSt) : f_X12_w4 119 97 110 116 S = some (wcd 10, S) := (s_w4 (by omega) (by omega) (by omega) (by omega) S).trans (congrArg (fun z => some (z, S)) (by decide +kernel))
theorem cw_11 (S : jSt) : f_X12_w4 119 101 101 107 S = some (wcd 11, S) := (s_w4 (by omega) (by omega) (by omega) (by omega) S).trans (congrArg (fun z => some (z, S)) (by decide +kernel))
theorem cw_12 (S : jSt) : f_X12_w5 119 111 114 116 104 S = some (wcd 12, S) := (s_w5 (by omega) (by omega) (by omega) (by omega) (by omega) S).trans (congrArg (fun z => some (z, S)) (by decide +kernel))
theorem cw_13 (S : jSt) : f_X12_w6 119 101 105 103 104 116 S = some (wcd 13, S) := (s_w6 (by omega) (by omega) (by omega) (by omega) (by omega) (by omega) S).trans (congrArg (fun z => some (z, S)) (by decide +kernel))
theorem cw_14 (S : jSt) : f_X12_w5 102 108 111 111 114 S = some (wcd 14, S) := (s_w5 (by omega) (by omega) (by omega) (by omega) (by omega) S).trans (congrArg (fun z => some (z, S)) (by decide +kernel))
theorem cw_15 (S : jSt) : f_X12_w5 112 117 114 115 101 S = some (wcd 15, S) := (s_w5 (by omega) (by omega) (by omega) (by omega) (by omega) S).trans (congrArg (fun z => some (z, S)) (by decide +kernel))
theorem cw_16 (S : jSt) : f_X12_w3 119 104 111 S = some (wcd 16, S) := (s_w3 (by omega) (by omega) (by omega) S).trans (congrArg (fun z => some (z, S)) (by decide +kernel))
theorem cw_17 (S : jSt) : f_X12_w3 104 97 115 S = some (wcd 17, S) := (s_w3 (by omega) (by omega) (by omega) S).trans (congrArg (fun z => some (z, S)) (by decide +kernel))
theorem cw_18 (S : jSt) : f_X12_w2 111 102 S = some (wcd 18, S) := (s_w2 (by omega) (by omega) S).trans (congrArg (fun z => some (z, S)) (by decide +kernel))
theorem cw_19 (S : jSt) : f_X12_w2 98 121 S = some (wcd 19, S) := (s_w2 (by omega) (by omega) S).trans (congrArg (fun z => some (z, S)) (by decide +kernel))
theorem cw_20 (S : jSt) : f_X12_w3 102 111 114 S = some (wcd 20, S) := (s_w3 (by omega) (by omega) (by omega) S).trans (congrArg (fun z => some (z, S)) (by decide +kernel))
theorem cw_21 (S : jSt) : f_X12_w4 116 104 101 110 S = some (wcd 21, S) := (s_w4 (by omega) (by omega) (by omega) (by omega) S).trans (congrArg (fun z => some (z, S)) (by decide +kernel))
theorem cw_22 (S : jSt) : f_X12_w4 101 108 115 101 S = some (wcd 22, S) := (s_w4 (by omega) (by omega) (by omega) (by omega) S).trans (congrArg (fun z => some (z, S)) (by decide +kernel))
theorem cw_23 (S : jSt) : f_X12_w3 101 110 100 S = some (wcd 23, S) := (s_w3 (by omega) (by omega) (by omega) S).trans (congrArg (fun z => some (z, S)) (by decide +kernel))
theorem cw_24 (S : jSt) : f_X12_w2 105 102 S = some (wcd 24, S) := (s_w2 (by omega) (by omega) S).trans (congrArg (fun z => some (z, S)) (by decide +kernel))
theorem cw_25 (S : jSt) : f_X12_w3 110 111 116 S = some (wcd 25, S) := (s_w3 (by omega) (by omega) (by omega) S).trans (congrArg (fun z => some (z, S)) (by decide +kernel))
theorem cw_26 (S : jSt) : f_X12_w4 101 118 101 110 S = some (wcd 26, S) := (s_w4 (by omega) (by omega) (by omega) (by omega) S).trans (congrArg (fun z => some (z, S)) (by decide +kernel))
theorem cw_27 (S : jSt) : f_X12_w6 119 111 114 116 104 115 S = some (wcd 27, S) := (s_w6 (by omega) (by omega) (by omega) (by omega) (by omega) (by omega) S).trans (congrArg (fun z => some (z, S)) (by decide +kernel))
theorem cw_28 (S : jSt) : f_X12_w2 111 114 S = some (wcd 28, S) := (s_w2 (by omega) (by omega) S).trans (congrArg (fun z => some (z, S)) (by decide +kernel))
theorem cw_29 (S : jSt) : f_X12_w3 97 110 100 S = some (wcd 29, S) := (s_w3 (by omega) (by omega) (by omega) S).trans (congrArg (fun z => some (z, S)) (by decide +kernel))
theorem s_rank (o : Nat) (S : jSt) : f_X12_rank (o : Int) S = some (((rk o : Nat) : Int), S) := by
  unfold f_X12_rank f_X12_rank_b82 f_X12_rank_b65 f_X12_rank_b82 rk
  (repeat' split) <;> first | rfl | (exfalso; omega)
def PlR (f : Nat → Int) : List Nat → Prop
  | [] => True
  | o :: P => f P.length = (o : Int) ∧ PlR f P
theorem PlR_up (f : Nat → Int) (z : Int) : ∀ (P : List Nat) (n : Nat), P.length ≤ n → PlR f P → PlR (va_up f n z) P
  | [], _, _, _ => trivial
  | o :: P, n, h, q => by
    rw [List.length_cons] at h
    exact ⟨by rw [va_up_ne _ _ (by omega)]; exact q.1, PlR_up f z P n (by omega) q.2⟩
abbrev okc (o v : Int) (lim : Nat) : Prop := 0 ≤ o ∧ (¬ o = 0 ∨ (0 ≤ v ∧ v ≤ 9999)) ∧ (¬ o = 1 ∨ (0 ≤ v ∧ v < (lim : Int)))
def lmt (law : Nat) : Nat := if law = 0 then 9 else 5
def cex (f : Nat → Int) (b lim : Nat) : Nat → Option SS
  | 0 => some ([], [])
  | n + 1 => (cex f b lim n).bind (fun s => if okc (f (b + 2 * n)) (f (b + 2 * n + 1)) lim then sx (f (b + 2 * n)).toNat (f (b + 2 * n + 1)) s else none)
theorem cex_c {f g : Nat → Int} {b lim : Nat} : ∀ n, (∀ k, b ≤ k → k < b + 2 * n → g k = f k) → cex g b lim n = cex f b lim n
  | 0, _ => rfl
  | n + 1, h => by
    rw [cex, cex, cex_c n (fun k h1 h2 => h k h1 (by omega)), h (b + 2 * n) (by omega) (by omega), h (b + 2 * n + 1) (by omega) (by omega)]
def PF (t0 w0 : Nat) (F F' : Nat → Nat → Int) : Prop := (∀ i, i ≠ 0 → i ≠ 3 → i ≠ 5 → F' i = F i) ∧ (∀ k, (k < t0 + 97 + 2 * w0 ∨ t0 + 705 ≤ k) → F' 3 k = F 3 k) ∧ ∀ k, (k < 7 ∨ k = 12 ∨ k = 14 ∨ k = 15 ∨ 18 < k) → F' 0 k = F 0 k
theorem PF_r (t0 w0 : Nat) (F : Nat → Nat → Int) : PF t0 w0 F F := ⟨fun _ _ _ _ => rfl, fun _ _ => rfl, fun _ _ => rfl⟩
theorem PF_t {t0 w0 : Nat} {F F1 F2 : Nat → Nat → Int} (h1 : PF t0 w0 F F1) (h2 : PF t0 w0 F1 F2) : PF t0 w0 F F2 := ⟨fun i a b c => (h2.1 i a b c).trans (h1.1 i a b c), fun k h => (h2.2.1 k h).trans (h1.2.1 k h), fun k h => (h2.2.2 k h).trans (h1.2.2 k h)⟩
theorem PF_LX {t0 w0 : Nat} {F F' : Nat → Nat → Int} (h : LX F F') : PF t0 w0 F F' := ⟨fun i a _ _ => h.1 i a, fun k _ => by rw [h.1 3 (by omega)], fun k hk => h.2 k (by omega)⟩
theorem PF_p (t0 w0 : Nat) (F : Nat → Nat → Int) {k : Nat} (z : Int) (hk : k = 13 ∨ (16 ≤ k ∧ k ≤ 18)) : PF t0 w0 F (va_up F 0 (va_up (F 0) k z)) := by
  refine ⟨fun i a _ _ => va_up_ne _ _ a, fun k _ => by rw [va_up_ne _ _ (by omega)], fun i hi => ?_⟩
  rw [up0, if_neg (by omega)]
theorem PF_5 (t0 w0 : Nat) (F : Nat → Nat → Int) (v : Nat → Int) : PF t0 w0 F (va_up F 5 v) := ⟨fun i _ _ c => va_up_ne _ _ c, fun k _ => by rw [va_up_ne _ _ (by omega)], fun k _ => by rw [va_up_ne _ _ (by omega)]⟩
theorem PF_RI {m : Nat} {S : jSt} {t0 w0 : Nat} {F F' : Nat → Nat → Int} (h : PF t0 w0 F F') (R : RI m S F) : RI m S F' := by
  refine ⟨R.1, ?_⟩
  unfold RIr
  rw [h.2.2 0 (by omega), h.2.2 1 (by omega), h.2.2 2 (by omega), h.2.2 3 (by omega), h.2.2 15 (by omega), h.2.2 20 (by omega), h.2.2 21 (by omega), h.2.2 22 (by omega), h.2.2 25 (by omega), h.2.2 26 (by omega), h.2.2 27 (by omega)]
  exact R.2
theorem PF_TP {B : Nat → Int} {L t0 w0 : Nat} {F F' : Nat → Nat → Int} (t : TP F B L) (h : PF t0 w0 F F') : TP F' B L := ⟨(h.1 4 (by omega) (by omega) (by omega)).trans t.1, (h.2.2 4 (by omega)).trans t.2.1, t.2.2⟩
def Pm (m : Nat) (S : jSt) (B : Nat → Int) (L t0 w0 law : Nat) (F : Nat → Nat → Int) (j w : Nat) (s : SS) (P : List Nat) (k : Nat) (wh : Int) : Prop :=
  (RI m S F ∧ TP F B L ∧ TokS F B L (psn B L j) ∧ t0 ≤ 2115) ∧ (F 0 12 = (t0 : Int) ∧ F 0 13 = (w : Int) ∧ F 0 14 = (law : Int) ∧ F 0 16 = (P.length : Int) ∧ F 0 17 = (k : Int) ∧ F 0 18 = wh) ∧ w0 ≤ w ∧ PlR (F 5) P ∧ cex (F 3) (t0 + 97 + 2 * w0) (lmt law) (w - w0) = some s
section RP
variable {m : Nat} {S : jSt} {F : Nat → Nat → Int} {B : Nat → Int} {L t0 w0 law j w : Nat} {s : SS} {P : List Nat} {k : Nat} {wh : Int}
theorem TokS_fr {F' : Nat → Nat → Int} {p : Nat} (t : TokS F B L p) (h : ∀ k, 7 ≤ k → k ≤ 11 → F' 0 k = F 0 k) : TokS F' B L p := by
  unfold TokS
  rw [h 7 (by omega) (by omega), h 8 (by omega) (by omega), h 9 (by omega) (by omega), h 10 (by omega) (by omega), h 11 (by omega) (by omega)]
  exact t
theorem s_isWord (R : RI m S F) {p : Nat} (t : TokS F B L p) {k' : Nat} (h1 : 1 ≤ k') (h2 : k' ≤ 29) (h3 : k' ≠ 2) : f_X12_isWord (m : Int) (wcd k') (rS m S F) = some (if kdX B L p = k' then 1 else 0, rS m S F) := by
  have q := t.2.1.1 k' h1 h2 h3
  unfold f_X12_isWord f_X12_isWord_b21 f_X12_isWord_b22
  rw [r_g R]
  by_cases h : F 0 9 = 2
  · rw [if_pos h, r_g R]
    by_cases hw : F 0 11 = wcd k'
    · rw [if_pos hw, if_pos (q.mp ⟨h, hw⟩)]
    · rw [if_neg hw, if_neg (fun z => hw (q.mpr z).2)]
  · rw [if_neg h, if_neg (fun z => h (q.mpr z).1)]
theorem wvl_8 (B : Nat → Int) (p : Nat) {n : Nat} (h : ∀ i, i < n → 65 ≤ B (p + i) ∧ B (p + i) ≤ 122) (hn : 7 < n) : 72057594037927936 ≤ wvl B p n := by
  obtain ⟨k, rfl⟩ : ∃ k, n = k + 1 := ⟨n - 1, by omega⟩
  obtain ⟨r1, r2, r3, r4⟩ := rW_v B p k (fun i hi => h i (by omega))
  have hb := h k (by omega)
  rw [wvl]
  by_cases e : k = 7
  · have := r4 e; omega
  · have := r2 (by omega); omega
theorem tnd_let {p : Nat} (hp : p < L) (hl : isLetP (B p) = true) : tnd B L p = rE isLetP B L p ∧ ∀ i, i < tnd B L p - p → 65 ≤ B (p + i) ∧ B (p + i) ≤ 122 := by
  have et : tnd B L p = rE isLetP B L p := by
    unfold tnd
    rw [if_neg (by omega), if_pos hl]
  refine ⟨et, fun i hi => ?_⟩
  rw [et] at hi
  have := isLet_b ((rE_b (pr := isLetP) (B := B) (L := L) (L - p) p rfl (by omega)).2.2.1 (p + i) (by omega) (by omega))
  omega
theorem s_isReserve (R : RI m S F) (tp : TP F B L) {p : Nat} (t : TokS F B L p) : f_X12_isReserve (m : Int) (rS m S F) = some (if kdX B L p = 2 then 1 else 0, rS m S F) := by
  obtain ⟨⟨hp, h8, h7⟩, tk, h9⟩ := t
  have tb := tnd_b (B := B) (L := L) (p := p) hp
  have hL3 := tp.2.2.1
  unfold f_X12_isReserve f_X12_isReserve_b129 f_X12_isReserve_b130
  rw [r_g R]
  by_cases q9 : F 0 9 = 2
  · obtain ⟨hpL, hl⟩ := h9.mp q9
    obtain ⟨et, hlt⟩ := tnd_let hpL hl
    have ek : kdX B L p = wkv (wvl B p (tnd B L p - p)) := by
      unfold kdX kdA
      rw [if_pos hpL, if_pos hl]
    have e2 : kdX B L p = 2 ↔ wvl B p (tnd B L p - p) = 32199693642659429 := by
      rw [ek, wkv_c _ (by omega) (by omega)]
      rfl
    rw [if_pos q9, r_g R, h7, r_g R, h8, w32_of (by omega) (by omega)]
    by_cases h : tnd B L p - p = 7
    · rw [h] at e2 hlt
      rw [if_pos (by omega)]
      have b0 := hlt 0 (by omega); have b1 := hlt 1 (by omega); have b2 := hlt 2 (by omega); have b3 := hlt 3 (by omega); have b4 := hlt 4 (by omega); have b5 := hlt 5 (by omega); have b6 := hlt 6 (by omega)
      rw [Nat.add_zero] at b0
      have a0 : f_X12_byteAt (m : Int) (p : Int) (rS m S F) = some (B p, rS m S F) := by rw [s_byteAt R tp, if_pos (by omega)]
      have aw : ∀ i : Nat, i < 7 → f_X12_byteAt (m : Int) (w32 ((p : Int) + (i : Int))) (rS m S F) = some (B (p + i), rS m S F) := fun i hi => by
        rw [w32_of (by omega) (by omega), show (p : Int) + (i : Int) = ((p + i : Nat) : Int) by omega, s_byteAt R tp, if_pos (by omega)]
      have a1 : f_X12_byteAt (m : Int) (w32 ((p : Int) + 1)) (rS m S F) = some (B (p + 1), rS m S F) := aw 1 (by omega)
      have a2 : f_X12_byteAt (m : Int) (w32 ((p : Int) + 2)) (rS m S F) = some (B (p + 2), rS m S F) := aw 2 (by omega)
      have a3 : f_X12_byteAt (m : Int) (w32 ((p : Int) + 3)) (rS m S F) = some (B (p + 3), rS m S F) := aw 3 (by omega)
      have a4 : f_X12_byteAt (m : Int) (w32 ((p : Int) + 4)) (rS m S F) = some (B (p + 4), rS m S F) := aw 4 (by omega)
      have a5 : f_X12_byteAt (m : Int) (w32 ((p : Int) + 5)) (rS m S F) = some (B (p + 5), rS m S F) := aw 5 (by omega)
      have a6 : f_X12_byteAt (m : Int) (w32 ((p : Int) + 6)) (rS m S F) = some (B (p + 6), rS m S F) := aw 6 (by omega)
      rw [r_g R, h8, r_cv R, a0, fcall_some, r_g R, h8, r_cv R, a1, fcall_some, r_g R, h8, r_cv R, a2, fcall_some, r_g R, h8, r_cv R, a3, fcall_some, s_w4 (by omega) (by omega) (by omega) (by omega), fcall_some, s_w4 (by omega) (by omega) (by omega) (by omega), fcall_some]
      have ev : wvl B p 7 = ((((((B p * 256 + B (p + 1)) * 256 + B (p + 2)) * 256 + B (p + 3)) * 256 + B (p + 4)) * 256 + B (p + 5)) * 256 + B (p + 6)) := by
        simp only [wvl, Nat.add_zero]
        omega
      rw [ev] at e2
      by_cases hc : ((B p * 256 + B (p + 1)) * 256 + B (p + 2)) * 256 + B (p + 3) = ((114 * 256 + 101) * 256 + 115) * 256 + 101
      · rw [if_pos hc, r_g R, h8, r_cv R, a4, fcall_some, r_g R, h8, r_cv R, a5, fcall_some, r_g R, h8, r_cv R, a6, fcall_some, s_w3 (by omega) (by omega) (by omega), fcall_some, s_w3 (by omega) (by omega) (by omega), fcall_some]
        by_cases hc2 : (B (p + 4) * 256 + B (p + 5)) * 256 + B (p + 6) = (114 * 256 + 118) * 256 + 101
        · rw [if_pos hc2, if_pos (e2.mpr (by omega))]
        · rw [if_neg hc2, if_neg (fun z => hc2 (by have := e2.mp z; omega))]
      · rw [if_neg hc, if_neg (fun z => hc (by have := e2.mp z; omega))]
    · rw [if_neg (by omega), if_neg (fun z => ?_)]
      have hv := e2.mp z
      obtain ⟨r1, r2, r3, r4⟩ := rW_v B p _ hlt
      by_cases h6 : tnd B L p - p ≤ 6
      · have := r3 h6; omega
      · have := wvl_8 B p hlt (by omega); omega
  · rw [if_neg q9, if_neg (fun z => ?_)]
    have : p < L ∧ isLetP (B p) = true := by
      unfold kdX at z
      by_cases hpL : p < L
      · rw [if_pos hpL] at z
        refine ⟨hpL, ?_⟩
        unfold kdA at z
        by_cases hl : isLetP (B p) = true
        · exact hl
        · rw [if_neg hl] at z
          split at z
          · omega
          · have := sgk_b (B p) (decide (p + 1 < tnd B L p)); omega
      · rw [if_neg hpL] at z; omega
    exact q9 (h9.mpr this)
end RP
