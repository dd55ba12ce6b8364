-- the reference's law, as its sale asks it
def LvR (m : Nat) (S : jSt) (T : Nat → Int) (n : Int) (V : LwV) : Prop := ∀ t : Nat, (t : Int) < n → ∀ s : Nat, s < 3 → ∀ (F : Nat → Nat → Int) (l : Nat) (b dflt top : Int), RI m S F → F 3 = T → Wf (F 1) → (l : Int) < F 1 0 → (s = 0 → 0 ≤ b ∧ b < F 1 1) → (s ≠ 0 → b = -1) → (∀ k, k < (if s = 0 then 9 else 5) → F 6 k = envL (F 1) l b k) → R32 dflt → (0 ≤ top ∧ top ≤ 1000000) → ∃ F', f_X12_says (m : Int) (t : Int) (s : Int) dflt top (rS m S F) = some (clp top ((V t s).elim dflt (fun d => d (envL (F 1) l b) (wfn (F 1)))), rS m S F') ∧ RI m S F' ∧ ∀ i, i ≠ 7 → i ≠ 8 → F' i = F i
def RR (m : Nat) (S : jSt) (V : LwV) (F : Nat → Nat → Int) : Prop := RI m S F ∧ Wf (F 1) ∧ LvR m S (F 3) (F 1 2) V
section RS1
variable {m : Nat} {S : jSt} {V : LwV} {F : Nat → Nat → Int}
theorem held_clp {v top : Int} (h : 0 ≤ top ∧ top ≤ 1000000) (S : jSt) : f_X12_held v 0 top S = some (clp top v, S) := s_held v 0 top S ⟨by omega, by omega⟩ ⟨by omega, by omega⟩
theorem s_says (h : RR m S V F) {t : Int} (ht : -1 ≤ t ∧ t < F 1 2) {s : Nat} (hs : s < 3) {l : Nat} (hl : (l : Int) < F 1 0) {b : Int} (hb : s = 0 → 0 ≤ b ∧ b < F 1 1) (hb2 : s ≠ 0 → b = -1) (hE : ∀ k, k < (if s = 0 then 9 else 5) → F 6 k = envL (F 1) l b k) {dflt top : Int} (hd : R32 dflt) (hto : 0 ≤ top ∧ top ≤ 1000000) : ∃ F', f_X12_says (m : Int) t (s : Int) dflt top (rS m S F) = some (sayv (F 1) V t s l b dflt top, rS m S F') ∧ RI m S F' ∧ ∀ i, i ≠ 7 → i ≠ 8 → F' i = F i := by
  obtain ⟨R, W, L⟩ := h
  unfold sayv
  by_cases h : t < 0
  · refine ⟨F, ?_, R, fun _ _ _ => rfl⟩
    rw [if_pos h]
    unfold f_X12_says f_X12_says_b3
    rw [show jN = 4999 + 1 from rfl, jrep_s]
    unfold f_X12_says_b3B f_X12_says_b63
    rw [if_pos h, held_clp hto, fcall_some]
  · rw [if_neg h]
    obtain ⟨t', et⟩ : ∃ t' : Nat, t = (t' : Int) := ⟨t.toNat, by omega⟩
    subst et
    rw [toNat_z]
    exact L t' ht.2 s hs F l b dflt top R rfl W hl hb hb2 hE hd hto
def nameV (F : Nat → Nat → Int) (l : Nat) : Nat → Int := va_up (va_up (va_up (va_up (va_up (F 6) 0 (F 1 7)) 1 (F 1 (11 + 5 * l))) 2 (F 1 (13 + 5 * l))) 3 (F 1 (14 + 5 * l))) 4 (l : Int)
theorem s_name (R : RI m S F) {l : Nat} (hl : l < 12) : f_X12_name (m : Int) (l : Int) (rS m S F) = some (0, rS m S (va_up F 6 (nameV F l))) := by
  unfold f_X12_name nameV
  have J : ∀ v, RI m S (va_up F 6 v) := fun v => rV R (by omega) v
  simp (disch := first | omega | exact R | exact J _) only [r_nm, r_a, r_al, rt_6, r_cv, s_get, fcall_some, va_up_self, va_uu, va_up_ne, toNat_z, show (0 : Int).toNat = 0 from rfl, show (1 : Int).toNat = 1 from rfl, show (2 : Int).toNat = 2 from rfl, show (3 : Int).toNat = 3 from rfl, show (4 : Int).toNat = 4 from rfl, show (7 : Int).toNat = 7 from rfl]
  rw [show 11 + 5 * l + 0 = 11 + 5 * l from rfl, show 11 + 5 * l + 2 = 13 + 5 * l by omega, show 11 + 5 * l + 3 = 14 + 5 * l by omega]
theorem RR_fr {F' : Nat → Nat → Int} (h : RR m S V F) (R : RI m S F') (hf : ∀ i, i ≠ 0 → i ≠ 6 → i ≠ 7 → i ≠ 8 → F' i = F i) : RR m S V F' := by
  obtain ⟨_, W, L⟩ := h
  refine ⟨R, ?_, ?_⟩
  · rw [hf 1 (by decide) (by decide) (by decide) (by decide)]; exact W
  · rw [hf 1 (by decide) (by decide) (by decide) (by decide), hf 3 (by decide) (by decide) (by decide) (by decide)]; exact L
theorem s_bidOf (h : RR m S V F) {b l : Nat} (hb : (b : Int) < F 1 1) (hl : (l : Int) < F 1 0) : ∃ F', f_X12_bidOf (m : Int) (b : Int) (l : Int) (rS m S F) = some (bidv (F 1) V b l, rS m S F') ∧ RI m S F' ∧ ∀ i, i ≠ 6 → i ≠ 7 → i ≠ 8 → F' i = F i := by
  have h0 := h
  obtain ⟨R, W, L⟩ := h
  obtain ⟨w0, w1, w2, w3, w4, w7, w8, w9, w10⟩ := W.1
  have wb := W.2.2 b hb
  have hl12 : l < 12 := by omega
  have hwa := wb.2 l hl12
  have J : ∀ v, RI m S (va_up F 6 v) := fun v => rV R (by omega) v
  have e1 : va_up F 6 (nameV F l) 1 = F 1 := va_up_ne _ _ (by decide)
  unfold f_X12_bidOf f_X12_bidOf_b98
  rw [r_cv R, s_name R hl12, fcall_some, r_nm (J _), r_cv (J _), w32_of (z := 1 + (l : Int)) (by omega) (by omega), s_own (J _) (by omega) (by omega) (by omega) (by omega), fcall_some, toNat_z, show 71 + 14 * b + (1 + (l : Int)).toNat = 72 + 14 * b + l by omega, rt_6 (J _) (by omega) (by omega)]
  simp only [va_up_self, va_uu]
  rw [e1, r_nm (J _), r_cv (J _), s_own (J _) (by omega) (by omega) (by omega) (by omega), fcall_some, toNat_z, rt_6 (J _) (by omega) (by omega)]
  simp only [va_up_self, va_uu]
  rw [va_up_ne F _ (show (1 : Nat) ≠ 6 by decide), r_nm (J _), rt_6 (J _) (by omega) (by omega)]
  simp only [va_up_self, va_uu]
  have hh := fun v => s_hasLots (J v) (by rw [va_up_ne F _ (show (1 : Nat) ≠ 6 by decide)]; exact w0) (b := (b : Int)) (by omega)
  rw [r_nm (J _), r_cv (J _), hh, fcall_some, va_up_ne F _ (show (1 : Nat) ≠ 6 by decide)]
  have hsm : hasL (F 1) (b : Int) < 2147483648 := mk_31 _ (by omega)
  rw [s_bits hsm, fcall_some, rt_6 (J _) (by omega) (by omega)]
  simp only [va_up_self, va_uu]
  have epc : pcf 31 (hasL (F 1) (b : Int)) = cnt (fun l => decide (F 1 (12 + 5 * l) = 3 + (b : Int))) (F 1 0).toNat := pcf_mk _ (by omega)
  rw [epc]
  generalize hv : va_up (va_up (va_up (va_up (nameV F l) (5 : Int).toNat (F 1 (72 + 14 * b + l))) (6 : Int).toNat (F 1 (71 + 14 * b + (0 : Int).toNat))) (7 : Int).toNat (b : Int)) (8 : Int).toNat ((cnt (fun l => decide (F 1 (12 + 5 * l) = 3 + (b : Int))) (F 1 0).toNat : Nat) : Int) = v
  have hE : ∀ k, k < 9 → v k = envL (F 1) l b k := by
    intro k hk
    rw [← hv]
    unfold nameV envL
    rw [if_neg (show ¬ (b : Int) < 0 by omega), toNat_z]
    have : k = 0 ∨ k = 1 ∨ k = 2 ∨ k = 3 ∨ k = 4 ∨ k = 5 ∨ k = 6 ∨ k = 7 ∨ k = 8 := by omega
    rcases this with rfl | rfl | rfl | rfl | rfl | rfl | rfl | rfl | rfl <;> rfl
  have k1 : RR m S V (va_up F 6 v) := RR_fr h0 (J v) (fun i _ q _ _ => va_up_ne _ _ q)
  have f1 : va_up F 6 v 1 = F 1 := va_up_ne F _ (show (1 : Nat) ≠ 6 by decide)
  obtain ⟨F2, v2, R2, f2⟩ := s_says k1 (t := F 1 3) (by rw [f1]; exact w3) (s := 0) (by omega) (l := l) (by rw [f1]; exact hl) (b := b) (fun _ => by rw [f1]; omega) (fun q => absurd rfl q) (by rw [va_up_self, f1]; exact hE) (dflt := F 1 (72 + 14 * b + l)) (top := 1000000) ⟨by omega, by omega⟩ (by omega)
  rw [f1] at v2
  have e25 : v 5 = F 1 (72 + 14 * b + l) := by rw [hE 5 (by decide)]; unfold envL; rw [if_neg (show ¬ (b : Int) < 0 by omega), toNat_z]; rfl
  have e26 : v 6 = F 1 (71 + 14 * b) := by rw [hE 6 (by decide)]; unfold envL; rw [if_neg (show ¬ (b : Int) < 0 by omega), toNat_z]; rfl
  rw [r_a (J _), r_al (J _) (by omega) (by omega), f1, r_nm (J _), ra_6 (J _) (by omega) (by omega), va_up_self, show (5 : Int).toNat = 5 from rfl, e25, show (3 : Int).toNat = 3 from rfl, r_cv (J _)]
  rw [show ((0 : Nat) : Int) = 0 from rfl] at v2
  rw [v2, fcall_some, r_nm R2, ra_6 R2 (by omega) (by omega), f2 6 (by decide) (by decide), va_up_self, show (6 : Int).toNat = 6 from rfl, e26]
  unfold bidv
  refine ⟨F2, ?_, R2, fun i q1 q2 q3 => by rw [f2 i q2 q3, va_up_ne _ _ q1]⟩
  by_cases q : F 1 (71 + 14 * b) ≤ sayv (F 1) V (F 1 3) 0 l b (F 1 (72 + 14 * b + l)) 1000000
  · rw [if_pos q, if_neg (by omega), r_nm R2, ra_6 R2 (by omega) (by omega), f2 6 (by decide) (by decide), va_up_self, show (6 : Int).toNat = 6 from rfl, e26]
  · rw [if_neg q, if_pos (by omega)]
theorem nameE (F : Nat → Nat → Int) (l : Nat) : ∀ k, k < 5 → nameV F l k = envL (F 1) l (-1) k := by
  intro k hk
  unfold nameV envL
  have : k = 0 ∨ k = 1 ∨ k = 2 ∨ k = 3 ∨ k = 4 := by omega
  rcases this with rfl | rfl | rfl | rfl | rfl <;> rfl
theorem s_reserveOf (h : RR m S V F) {l : Nat} (hl : (l : Int) < F 1 0) : ∃ F', f_X12_reserveOf (m : Int) (l : Int) (rS m S F) = some (resv (F 1) V l, rS m S F') ∧ RI m S F' ∧ ∀ i, i ≠ 6 → i ≠ 7 → i ≠ 8 → F' i = F i := by
  have h0 := h
  obtain ⟨R, W, L⟩ := h
  obtain ⟨w0, w1, w2, w3, w4, w7, w8, w9, w10⟩ := W.1
  have wl := W.2.1 l hl
  have J : ∀ v, RI m S (va_up F 6 v) := fun v => rV R (by omega) v
  have k1 : RR m S V (va_up F 6 (nameV F l)) := RR_fr h0 (J _) (fun i _ q _ _ => va_up_ne _ _ q)
  have f1 : ∀ v, va_up F 6 v 1 = F 1 := fun v => va_up_ne F _ (show (1 : Nat) ≠ 6 by decide)
  have e2 : nameV F l (2 : Int).toNat = F 1 (13 + 5 * l) := nameE F l 2 (by decide)
  obtain ⟨F2, v2, R2, f2⟩ := s_says k1 (t := F 1 3) (by rw [f1]; exact w3) (s := 1) (by omega) (l := l) (by rw [f1]; exact hl) (b := -1) (fun q => absurd q (by decide)) (fun _ => rfl) (by rw [va_up_self, f1]; exact nameE F l) (dflt := F 1 (13 + 5 * l) / 2) (top := 999) ⟨by omega, by omega⟩ (by omega)
  rw [f1, show ((1 : Nat) : Int) = 1 from rfl] at v2
  unfold f_X12_reserveOf resv
  rw [r_cv R, s_name R (by omega), fcall_some, r_a (J _), r_al (J _) (by omega) (by omega), f1, r_nm (J _), ra_6 (J _) (by omega) (by omega), va_up_self, e2, if_neg (by decide), idiv_n (by omega) (by omega) (by omega) (by omega), r_cv (J _), show (3 : Int).toNat = 3 from rfl, v2, fcall_some]
  exact ⟨F2, rfl, R2, fun i q1 q2 q3 => by rw [f2 i q2 q3, va_up_ne _ _ q1]⟩
theorem s_warmsOf (h : RR m S V F) {l : Nat} (hl : (l : Int) < F 1 0) {t : Int} (ht : -1 ≤ t ∧ t < F 1 2) : ∃ F', f_X12_warmsOf (m : Int) t (l : Int) (rS m S F) = some (wrmv (F 1) V t l, rS m S F') ∧ RI m S F' ∧ ∀ i, i ≠ 6 → i ≠ 7 → i ≠ 8 → F' i = F i := by
  have h0 := h
  obtain ⟨R, W, L⟩ := h
  obtain ⟨w0, w1, w2, w3, w4, w7, w8, w9, w10⟩ := W.1
  have J : ∀ v, RI m S (va_up F 6 v) := fun v => rV R (by omega) v
  have k1 : RR m S V (va_up F 6 (nameV F l)) := RR_fr h0 (J _) (fun i _ q _ _ => va_up_ne _ _ q)
  have f1 : ∀ v, va_up F 6 v 1 = F 1 := fun v => va_up_ne F _ (show (1 : Nat) ≠ 6 by decide)
  obtain ⟨F2, v2, R2, f2⟩ := s_says k1 (t := t) (by rw [f1]; exact ht) (s := 2) (by omega) (l := l) (by rw [f1]; exact hl) (b := -1) (fun q => absurd q (by decide)) (fun _ => rfl) (by rw [va_up_self, f1]; exact nameE F l) (dflt := 3) (top := 10) ⟨by omega, by omega⟩ (by omega)
  rw [f1, show ((2 : Nat) : Int) = 2 from rfl] at v2
  unfold f_X12_warmsOf wrmv
  rw [r_cv R, s_name R (by omega), fcall_some, r_cv (J _), v2, fcall_some]
  exact ⟨F2, rfl, R2, fun i q1 q2 q3 => by rw [f2 i q2 q3, va_up_ne _ _ q1]⟩
end RS1
