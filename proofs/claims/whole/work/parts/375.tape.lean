-- feed, end, fault, by
section TP1
variable {x : Nat} {Z : jSt} {C F : Nat → Nat → Int}
theorem INV_tape {C' F' : Nat → Nat → Int} (h : INV x Z C F) (I' : CI x Z C') (R' : RI (x + 426) Z F') (hC : ∀ i, i ≠ 403 → i ≠ 404 → C' i = C i) (hF : ∀ i, i ≠ 0 → i ≠ 4 → F' i = F i) (hF0 : ∀ k, k ≠ 4 → F' 0 k = F 0 k) (hT : TAP C' F') : INV x Z C' F' := by
  obtain ⟨⟨I, R, hZ⟩, Rl, Ri, ⟨V, Rw, T1, T2, T3⟩, _, ⟨f1, f2⟩, wr⟩ := h
  refine ⟨⟨I', R', hZ⟩, ?_, ?_, ⟨V, Rw, fun t ht => ?_, ?_, fun t => ?_⟩, hT, ⟨?_, ?_⟩, ?_⟩
  · rw [hF 1 (by omega) (by omega)]
    exact Rel_fr Rl (fun i h1 h2 => hC i (by omega) (by omega))
  · rw [hF 2 (by omega) (by omega)]
    exact Rel_im Ri (fun i h1 h2 => hC i (by omega) (by omega))
  · rw [hF 1 (by omega) (by omega)] at ht
    rw [hC 4 (by omega) (by omega), hF 3 (by omega) (by omega)]
    exact T1 t ht
  · rw [hF 2 (by omega) (by omega), hF 1 (by omega) (by omega)]; exact T2
  · rw [hF 2 (by omega) (by omega), hC 4 (by omega) (by omega), hC 205 (by omega) (by omega)]
    exact T3 t
  · rw [hC 408 (by omega) (by omega), hF0 5 (by omega)]; exact f1
  · rw [hC 408 (by omega) (by omega), hF0 6 (by omega)]; exact f2
  · rw [hF0 23 (by omega)]; exact wr
theorem Good_z {fc fr : jSt → Option (Int × jSt)} (h : ∀ Z C F, INV x Z C F → ∃ v C' F', fc (cS x (gS (x + 426) 12 Z F) C) = some (v, cS x (gS (x + 426) 12 Z F) C') ∧ (∀ S2, S2.2.2.1 = Z.2.2.1 → fr (rS (x + 426) S2 F) = some (v, rS (x + 426) S2 F')) ∧ INV x Z C' F') : Good x fc fr := by
  intro Z C F hI
  obtain ⟨v, C', F', h1, h2, h3⟩ := h Z C F hI
  refine ⟨v, Z, C', F', h1, ?_, h3, by omega, by omega⟩
  rw [jS_r, jS_r]
  exact h2 _ rfl
theorem RI_k {S2 : jSt} {F : Nat → Nat → Int} (R : RI (x + 426) Z F) (h : S2.2.2.1 = Z.2.2.1) : RI (x + 426) S2 F := by
  refine ⟨?_, R.2⟩
  have := R.1
  unfold RIt at this ⊢
  rw [h]
  exact this
theorem g_end (n : Int) : Good x (f_X11_end (x : Int) n) (f_X12_end ((x + 426 : Nat) : Int) n) := Good_z (fun Z C F h => by
  have I := CI_g (y := x + 426) (N := 12) (F := F) h.1.1
  obtain ⟨p1, p2, L, p3, p4, p5⟩ := h.2.2.2.2.1
  unfold f_X11_end f_X12_end
  by_cases hn : 0 ≤ n ∧ n ≤ (L : Int)
  · refine ⟨n, va_up C 403 (va_up (C 403) 0 n), va_up F 0 (va_up (F 0) 4 n), ?_, fun S2 hS => ?_, ?_⟩
    · rw [cr0_6 I, cg_403 I, p2, p3, s_within, fcall_some, if_b01, if_pos hn, cr0_6 I, cp_403 I]
    · have R := RI_k h.1.2.1 hS
      rw [r_g R, p3, s_isIn, fcall_some, if_b01, if_pos hn, r_p R]
    · refine INV_tape h (CI_up h.1.1 rfl) (RI_up0 h.1.2.1 (by decide)) (fun i a b => va_up_ne _ _ a) (fun i a b => va_up_ne _ _ a) (fun k hk => by rw [up0, if_neg hk]) ⟨?_, ?_, n.toNat, ?_, by omega, fun i hi => ?_⟩
      · rw [va_up_ne _ _ (by decide), va_up_ne _ _ (by decide)]; exact p1
      · rw [va_up_self, va_up_self, up0, if_pos rfl]
      · rw [up0, if_pos rfl]; omega
      · rw [va_up_ne _ _ (by decide)]; exact p5 i (by omega)
  · refine ⟨-1, C, F, ?_, fun S2 hS => ?_, h⟩
    · rw [cr0_6 I, cg_403 I, p2, p3, s_within, fcall_some, if_b01, if_neg hn]
    · have R := RI_k h.1.2.1 hS
      rw [r_g R, p3, s_isIn, fcall_some, if_b01, if_neg hn])
theorem g_fault (n : Int) : Good x (f_X11_fault (x : Int) n) (f_X12_fault ((x + 426 : Nat) : Int) n) := Good_z (fun Z C F h => by
  have I := CI_g (y := x + 426) (N := 12) (F := F) h.1.1
  obtain ⟨f1, f2⟩ := h.2.2.2.2.2.1
  refine ⟨if n = 0 then F 0 5 else if n = 1 then F 0 6 else -1, C, F, ?_, fun S2 hS => ?_, h⟩
  · unfold f_X11_fault f_X11_fault_b28
    by_cases h0 : n = 0
    · rw [if_pos h0, if_pos h0, cr0_7 I, cg_408 I, f1]
    · rw [if_neg h0, if_neg h0]
      by_cases h1 : n = 1
      · rw [if_pos h1, if_pos h1, cr0_7 I, cg_408 I, f2]
      · rw [if_neg h1, if_neg h1]
  · have R := RI_k h.1.2.1 hS
    unfold f_X12_fault f_X12_fault_b24
    by_cases h0 : n = 0
    · rw [if_pos h0, if_pos h0, r_g R]
    · rw [if_neg h0, if_neg h0]
      by_cases h1 : n = 1
      · rw [if_pos h1, if_pos h1, r_g R]
      · rw [if_neg h1, if_neg h1])
theorem g_by (n : Int) : Good x (f_X11_by (x : Int) n) (f_X12_by ((x + 426 : Nat) : Int) n) := Good_k (fun Z C F V R h T => by
  have I := CI_g (y := x + 426) (N := 12) (F := F) h.1.1
  have Rl := h.2.1
  have W := INV_W h
  have w2 := W.1.2.2.1
  unfold f_X11_by f_X11_by_b18 f_X12_by
  by_cases hn : -1 ≤ n ∧ n < F 1 2
  · have cl : ∀ o : Option (Int × jSt), o = some (1, cS x (gS (x + 426) 12 Z F) (va_up C 1 (va_up (C 1) 6 n))) → ∃ v C' a', o = some (v, cS x (gS (x + 426) 12 Z F) C') ∧ CI x (gS (x + 426) 12 Z F) C' ∧ Rel a' C' 1 14 20 ∧ KF C C' ∧ a' 2 = F 1 2 ∧ ∀ S2, S2.2.2.1 = Z.2.2.1 → RR (x + 426) S2 V F → ∃ F', (fgetr (rS (x + 426) S2 F) ((x + 426 : Nat) : Int) 12 0 fun v1 => fald (rS (x + 426) S2 F) v1 2 1 fun v2 => fcall (f_X12_isIn n (-1) (w32 (v2 - 1)) (rS (x + 426) S2 F)) fun v3 S4 => if v3 = 0 then some (0, S4) else fgetr S4 ((x + 426 : Nat) : Int) 12 0 fun v5 => fast S4 v5 3 1 n fun S6 => some (1, S6)) = some (v, rS (x + 426) S2 F') ∧ RK (x + 426) S2 F F' a' := fun o ho => by
      have a3 : ∀ k, k ≠ 3 → va_up (F 1) 3 n k = F 1 k := fun k hk => va_up_ne _ _ hk
      obtain ⟨t0, t1, t2, t3, t4⟩ := Rl.1
      have cc : ∀ i, i ≠ 1 → va_up C 1 (va_up (C 1) 6 n) i = C i := fun i hi => va_up_ne _ _ hi
      refine ⟨1, va_up C 1 (va_up (C 1) 6 n), va_up (F 1) 3 n, ho, CI_up I rfl, Rel_tld Rl (fun k hk => a3 k (fun z => hk (by unfold tld; omega))) (by rw [a3 2 (by omega)]; exact w2) (by rw [va_up_self, a3 2 (by omega)]; exact hn) ⟨?_, ?_, ?_, ?_, fun l hl => ?_⟩ (TdX_ext Rl.2.1 Rl.2.2.1 (fun k hk => a3 k (by omega)) ⟨by rw [va_up_self, va_up_ne _ _ (by decide)], by rw [va_up_self, va_up_ne _ _ (by decide)]⟩ (fun i h1 h2 => cc i (by omega))) (WfX_ext Rl.2.2.1 (fun k hk => a3 k (by omega)) (by rw [a3 0 (by omega)]; omega) (by rw [a3 1 (by omega)]; omega)) (fun i h1 h2 => cc i (by omega)), ⟨cc 4 (by omega), fun i h1 h2 => cc i (by omega)⟩, a3 2 (by omega), fun S2 hS R2 => ?_⟩
      · rw [va_up_self, va_up_ne _ _ (by decide), a3 0 (by omega)]; exact t0
      · rw [va_up_self, va_up_ne _ _ (by decide), a3 1 (by omega)]; exact t1
      · rw [va_up_self, va_up_ne _ _ (by decide), a3 2 (by omega)]; exact t2
      · rw [va_up_self, va_up_self, va_up_self]
      · rw [a3 0 (by omega)] at hl
        rw [cc 2 (by omega), cc 3 (by omega), a3 _ (by omega), a3 _ (by omega)]
        exact t4 l hl
      · have R := R2.1
        rw [r_a R, r_al R (by omega) (by omega), show (2 : Int).toNat = 2 from rfl, w32_of (by omega) (by omega), s_isIn, fcall_some, if_b01, if_pos (by omega), r_a R, r_st R (by omega) (by omega), show (3 : Int).toNat = 3 from rfl]
        exact ⟨_, rfl, RK_a R⟩
    by_cases h1 : n = -1
    · exact cl _ (by rw [if_pos h1, cr0_0 I, cp_1 I])
    · exact cl _ (by rw [if_neg h1, cr0_0 I, cv_1 I, c_hasText I Rl.1 W.1, fcall_some, if_b01, if_pos (by omega), cr0_0 I, cp_1 I])
  · refine ⟨0, C, F 1, ?_, I, Rl, KF_r C, rfl, fun S2 hS R2 => ?_⟩
    · rw [if_neg (by omega), cr0_0 I, cv_1 I, c_hasText I Rl.1 W.1, fcall_some, if_b01, if_neg (by omega)]
    · have R := R2.1
      rw [r_a R, r_al R (by omega) (by omega), show (2 : Int).toNat = 2 from rfl, w32_of (by omega) (by omega), s_isIn, fcall_some, if_b01, if_neg (by omega)]
      exact ⟨F, rfl, RK_r R⟩)
theorem and255 (a : Int) : 0 ≤ iand32 a 255 ∧ iand32 a 255 ≤ 255 := by
  unfold iand32
  have h1 : Int32.ofInt a = nI (Int32.ofInt a).toBitVec.toNat := by
    generalize Int32.ofInt a = w
    exact Int32.toBitVec_inj.mp (by show w.toBitVec = BitVec.ofNat 32 w.toBitVec.toNat; rw [BitVec.ofNat_toNat, BitVec.setWidth_eq])
  rw [h1, show (255 : Int) = ((255 : Nat) : Int) from rfl, ofN, nI_and]
  have h2 : (Int32.ofInt a).toBitVec.toNat &&& 255 ≤ 255 := Nat.and_le_right
  rw [toN (by omega)]
  omega
def fd1 (v : Int) (k : Int) : Int := iand32 (ishr32 v k) 255
def fd4 (B : Nat → Int) (L : Nat) (v : Int) : Nat → Int := va_up (va_up (va_up (va_up B L (fd1 v 24)) (L + 1) (fd1 v 16)) (L + 2) (fd1 v 8)) (L + 3) (fd1 v 0)
theorem c_app1 {S : jSt} (I : CI x S C) {L : Nat} (hL : L < 300) (h0 : C 403 0 = (L : Int)) {v k : Int} (hk : 0 ≤ k ∧ k ≤ 24) (r : Int → Int → Int → jSt → Option (Int × jSt)) : ∃ C', f_X9_append_b3B r ((x + 403 : Nat) : Int) v k (cS x S C) = r ((x + 403 : Nat) : Int) v (k - 8) (cS x S C') ∧ CI x S C' ∧ (∀ i, i ≠ 403 → i ≠ 404 → C' i = C i) ∧ C' 403 0 = ((L + 1 : Nat) : Int) ∧ C' 404 = va_up (C 404) L (fd1 v k) := by
  unfold f_X9_append_b3B
  rw [show fd1 v k = iand32 (ishr32 v k) 255 from rfl]
  generalize hz : iand32 (ishr32 v k) 255 = z
  have I1 : CI x S (va_up C 404 (va_up (C 404) L z)) := CI_ar I (fun k => rfl)
  have e3 : va_up C 404 (va_up (C 404) L z) 403 = C 403 := va_up_ne _ _ (by decide)
  rw [if_neg (by omega), cg_403 I, h0, if_neg (by omega), cr403_2 I, cg_403 I, h0, st_404 I (by omega) (by omega), toNat_z]
  show ∃ C', fget (cS x S (va_up C 404 (va_up (C 404) L z))) ((x + 403 : Nat) : Int) 9 0 _ = _ ∧ _
  rw [cg_403 I1, e3, h0, w32_of (by omega) (by omega), cp_403 I1, e3, zs, flet_eq, w32_of (by omega) (by omega), show k + -8 = k - 8 by omega]
  refine ⟨_, rfl, by rw [← e3]; exact CI_up I1 rfl, fun i a b => by rw [va_up_ne _ _ a, va_up_ne _ _ b], by rw [va_up_self, va_up_self], by rw [va_up_ne _ _ (by decide), va_up_self]⟩
theorem c_app {S : jSt} (I : CI x S C) {L : Nat} (hL : L + 4 ≤ 300) (h0 : C 403 0 = (L : Int)) (v : Int) : ∃ C', f_X9_append ((x + 403 : Nat) : Int) v (cS x S C) = some (0, cS x S C') ∧ CI x S C' ∧ (∀ i, i ≠ 403 → i ≠ 404 → C' i = C i) ∧ C' 403 0 = ((L + 4 : Nat) : Int) ∧ C' 404 = fd4 (C 404) L v := by
  unfold f_X9_append f_X9_append_b3
  show ∃ C', jrep (fun _ _ _ _ => none) (fun r => f_X9_append_b3B r) (4995 + 1 + 1 + 1 + 1 + 1) ((x + 403 : Nat) : Int) v 24 (cS x S C) = some (0, cS x S C') ∧ _
  obtain ⟨C1, v1, I1, f1, a1, b1⟩ := c_app1 I (L := L) (v := v) (by omega) h0 (k := 24) (by omega) (jrep (fun _ _ _ _ => none) (fun r => f_X9_append_b3B r) (4995 + 1 + 1 + 1 + 1))
  obtain ⟨C2, v2, I2, f2, a2, b2⟩ := c_app1 I1 (L := L + 1) (v := v) (by omega) a1 (k := 16) (by omega) (jrep (fun _ _ _ _ => none) (fun r => f_X9_append_b3B r) (4995 + 1 + 1 + 1))
  obtain ⟨C3, v3, I3, f3, a3, b3⟩ := c_app1 I2 (L := L + 2) (v := v) (by omega) a2 (k := 8) (by omega) (jrep (fun _ _ _ _ => none) (fun r => f_X9_append_b3B r) (4995 + 1 + 1))
  obtain ⟨C4, v4, I4, f4, a4, b4⟩ := c_app1 I3 (L := L + 3) (v := v) (by omega) a3 (k := 0) (by omega) (jrep (fun _ _ _ _ => none) (fun r => f_X9_append_b3B r) (4995 + 1))
  rw [jrep_s, v1, show (24 : Int) - 8 = 16 from rfl, jrep_s, v2, show (16 : Int) - 8 = 8 from rfl, jrep_s, v3, show (8 : Int) - 8 = 0 from rfl, jrep_s, v4, jrep_s]
  unfold f_X9_append_b3B f_X9_append_b49
  rw [if_pos (by decide)]
  refine ⟨C4, rfl, I4, fun i a b => by rw [f4 i a b, f3 i a b, f2 i a b, f1 i a b], a4, ?_⟩
  rw [b4, b3, b2, b1]
  rfl
theorem s_four1 {m : Nat} {S : jSt} {F : Nat → Nat → Int} (R : RI m S F) {L : Nat} (hL : L < 300) (h0 : F 0 4 = (L : Int)) {v k : Int} (hk : 0 ≤ k ∧ k ≤ 24) (r : Int → Int → Int → jSt → Option (Int × jSt)) : ∃ F', f_X12_four_b3B r (m : Int) v k (rS m S F) = r (m : Int) v (k - 8) (rS m S F') ∧ RI m S F' ∧ (∀ i, i ≠ 0 → i ≠ 4 → F' i = F i) ∧ (∀ k, k ≠ 4 → F' 0 k = F 0 k) ∧ F' 0 4 = ((L + 1 : Nat) : Int) ∧ F' 4 = va_up (F 4) L (fd1 v k) := by
  unfold f_X12_four_b3B
  rw [show fd1 v k = iand32 (ishr32 v k) 255 from rfl]
  generalize hz : iand32 (ishr32 v k) 255 = z
  have R1 : RI m S (va_up F 4 (va_up (F 4) L z)) := rV R (by omega) _
  have e3 : va_up F 4 (va_up (F 4) L z) 0 = F 0 := va_up_ne _ _ (by decide)
  rw [if_neg (by omega), r_tp R, r_g R, h0, rt_4 R (by omega) (by omega), toNat_z]
  show ∃ F', fget (rS m S (va_up F 4 (va_up (F 4) L z))) (m : Int) 12 4 _ = _ ∧ _
  rw [r_g R1, e3, h0, w32_of (by omega) (by omega), r_p R1, e3, zs, flet_eq, w32_of (by omega) (by omega), show k + -8 = k - 8 by omega]
  refine ⟨_, rfl, by rw [← e3]; exact RI_up0 R1 (by decide), fun i a b => by rw [va_up_ne _ _ a, va_up_ne _ _ b], fun k hk => by rw [va_up_self, va_up_ne _ _ hk], by rw [va_up_self, va_up_self], by rw [va_up_ne _ _ (by decide), va_up_self]⟩
theorem s_four {m : Nat} {S : jSt} {F : Nat → Nat → Int} (R : RI m S F) {L : Nat} (hL : L + 4 ≤ 300) (h0 : F 0 4 = (L : Int)) (v : Int) : ∃ F', f_X12_four (m : Int) v (rS m S F) = some (0, rS m S F') ∧ RI m S F' ∧ (∀ i, i ≠ 0 → i ≠ 4 → F' i = F i) ∧ (∀ k, k ≠ 4 → F' 0 k = F 0 k) ∧ F' 0 4 = ((L + 4 : Nat) : Int) ∧ F' 4 = fd4 (F 4) L v := by
  unfold f_X12_four f_X12_four_b3
  show ∃ F', jrep (fun _ _ _ _ => none) (fun r => f_X12_four_b3B r) (4995 + 1 + 1 + 1 + 1 + 1) (m : Int) v 24 (rS m S F) = some (0, rS m S F') ∧ _
  obtain ⟨C1, v1, I1, f1, g1, a1, b1⟩ := s_four1 R (L := L) (v := v) (by omega) h0 (k := 24) (by omega) (jrep (fun _ _ _ _ => none) (fun r => f_X12_four_b3B r) (4995 + 1 + 1 + 1 + 1))
  obtain ⟨C2, v2, I2, f2, g2, a2, b2⟩ := s_four1 I1 (L := L + 1) (v := v) (by omega) a1 (k := 16) (by omega) (jrep (fun _ _ _ _ => none) (fun r => f_X12_four_b3B r) (4995 + 1 + 1 + 1))
  obtain ⟨C3, v3, I3, f3, g3, a3, b3⟩ := s_four1 I2 (L := L + 2) (v := v) (by omega) a2 (k := 8) (by omega) (jrep (fun _ _ _ _ => none) (fun r => f_X12_four_b3B r) (4995 + 1 + 1))
  obtain ⟨C4, v4, I4, f4, g4, a4, b4⟩ := s_four1 I3 (L := L + 3) (v := v) (by omega) a3 (k := 0) (by omega) (jrep (fun _ _ _ _ => none) (fun r => f_X12_four_b3B r) (4995 + 1))
  rw [jrep_s, v1, show (24 : Int) - 8 = 16 from rfl, jrep_s, v2, show (16 : Int) - 8 = 8 from rfl, jrep_s, v3, show (8 : Int) - 8 = 0 from rfl, jrep_s, v4, jrep_s]
  unfold f_X12_four_b3B
  rw [if_pos (by decide)]
  refine ⟨C4, rfl, I4, fun i a b => by rw [f4 i a b, f3 i a b, f2 i a b, f1 i a b], fun k hk => by rw [g4 k hk, g3 k hk, g2 k hk, g1 k hk], a4, ?_⟩
  rw [b4, b3, b2, b1]
  rfl
theorem fd4_b {B : Nat → Int} {L : Nat} (h : ∀ i, i < L → 0 ≤ B i ∧ B i ≤ 255) (v : Int) : ∀ i, i < L + 4 → 0 ≤ fd4 B L v i ∧ fd4 B L v i ≤ 255 := by
  intro i hi
  unfold fd4 va_up
  (repeat' split) <;> first | exact and255 _ | exact h i (by omega)
theorem g_feed (a b c d e : Int) : Good x (f_X11_feed (x : Int) a b c d e) (f_X12_feed ((x + 426 : Nat) : Int) a b c d e) := Good_z (fun Z C F h => by
  have I := CI_g (y := x + 426) (N := 12) (F := F) h.1.1
  obtain ⟨p1, p2, L, p3, p4, p5⟩ := h.2.2.2.2.1
  unfold f_X11_feed f_X12_feed
  by_cases hL : L + 20 ≤ 300
  · obtain ⟨C1, v1, I1, f1, a1, b1⟩ := c_app I (L := L) (by omega) (by rw [p2, p3]) a
    obtain ⟨C2, v2, I2, f2, a2, b2⟩ := c_app I1 (L := L + 4) (by omega) a1 b
    obtain ⟨C3, v3, I3, f3, a3, b3⟩ := c_app I2 (L := L + 4 + 4) (by omega) a2 c
    obtain ⟨C4, v4, I4, f4, a4, b4⟩ := c_app I3 (L := L + 4 + 4 + 4) (by omega) a3 d
    obtain ⟨C5, v5, I5, f5, a5, b5⟩ := c_app I4 (L := L + 4 + 4 + 4 + 4) (by omega) a4 e
    have eB : C5 404 = fd4 (fd4 (fd4 (fd4 (fd4 (F 4) L a) (L + 4) b) (L + 4 + 4) c) (L + 4 + 4 + 4) d) (L + 4 + 4 + 4 + 4) e := by rw [b5, b4, b3, b2, b1, p1]
    refine ⟨((L + 4 + 4 + 4 + 4 + 4 : Nat) : Int), C5, va_up (va_up F 4 (C5 404)) 0 (va_up (F 0) 4 ((L + 4 + 4 + 4 + 4 + 4 : Nat) : Int)), ?_, fun S2 hS => ?_, ?_⟩
    · rw [cr0_6 I, cg_403 I, p2, p3, w32_of (by omega) (by omega), if_pos (by omega), cr0_6 I, cv_403 I, v1, fcall_some, cr0_6 I1, cv_403 I1, v2, fcall_some, cr0_6 I2, cv_403 I2, v3, fcall_some, cr0_6 I3, cv_403 I3, v4, fcall_some, cr0_6 I4, cv_403 I4, v5, fcall_some, cr0_6 I5, cg_403 I5, a5]
    · have R := RI_k h.1.2.1 hS
      obtain ⟨F1, w1, R1, g1, h1, e1, d1⟩ := s_four R (L := L) (by omega) p3 a
      obtain ⟨F2, w2, R2, g2, h2, e2, d2⟩ := s_four R1 (L := L + 4) (by omega) e1 b
      obtain ⟨F3, w3, R3, g3, h3, e3, d3⟩ := s_four R2 (L := L + 4 + 4) (by omega) e2 c
      obtain ⟨F4, w4, R4, g4, h4, e4, d4⟩ := s_four R3 (L := L + 4 + 4 + 4) (by omega) e3 d
      obtain ⟨F5, w5, R5, g5, h5, e5, d5⟩ := s_four R4 (L := L + 4 + 4 + 4 + 4) (by omega) e4 e
      rw [r_g R, p3, w32_of (by omega) (by omega), if_pos (by omega), r_cv R, w1, fcall_some, r_cv R1, w2, fcall_some, r_cv R2, w3, fcall_some, r_cv R3, w4, fcall_some, r_cv R4, w5, fcall_some, r_g R5, e5]
      have : F5 = va_up (va_up F 4 (C5 404)) 0 (va_up (F 0) 4 ((L + 4 + 4 + 4 + 4 + 4 : Nat) : Int)) := by
        funext i
        by_cases i0 : i = 0
        · subst i0
          rw [va_up_self]
          funext k
          by_cases k4 : k = 4
          · subst k4; rw [va_up_self, e5]
          · rw [va_up_ne _ _ k4, h5 k k4, h4 k k4, h3 k k4, h2 k k4, h1 k k4]
        · rw [va_up_ne _ _ i0]
          by_cases i4 : i = 4
          · subst i4; rw [va_up_self, d5, d4, d3, d2, d1, eB]
          · rw [va_up_ne _ _ i4, g5 i i0 i4, g4 i i0 i4, g3 i i0 i4, g2 i i0 i4, g1 i i0 i4]
      rw [this]
    · have g0 : va_up F 4 (C5 404) 0 = F 0 := va_up_ne _ _ (by decide)
      refine INV_tape h I5 (by rw [← g0]; exact RI_up0 (rV h.1.2.1 (by omega) _) (by decide)) (fun i a b => by rw [f5 i a b, f4 i a b, f3 i a b, f2 i a b, f1 i a b]) (fun i a b => by rw [va_up_ne _ _ a, va_up_ne _ _ b]) (fun k hk => by rw [va_up_self, va_up_ne _ _ hk]) ⟨?_, ?_, L + 4 + 4 + 4 + 4 + 4, ?_, by omega, fun i hi => ?_⟩
      · rw [va_up_ne _ _ (by decide), va_up_self]
      · rw [a5, va_up_self, va_up_self]
      · rw [va_up_self, va_up_self]
      · rw [va_up_ne _ _ (by decide), va_up_self, eB]
        exact fd4_b (fd4_b (fd4_b (fd4_b (fd4_b p5 a) b) c) d) e i hi
  · refine ⟨-1, C, F, ?_, fun S2 hS => ?_, h⟩
    · rw [cr0_6 I, cg_403 I, p2, p3, w32_of (by omega) (by omega), if_neg (by omega)]
    · have R := RI_k h.1.2.1 hS
      rw [r_g R, p3, w32_of (by omega) (by omega), if_neg (by omega)])
end TP1
