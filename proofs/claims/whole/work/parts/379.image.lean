-- the steps are copied; image, back
section CS1
variable {x : Nat} {S : jSt} {C : Nat → Nat → Int} {d o : Nat}
def CpR (C C' : Nat → Nat → Int) (d o : Nat) : Prop := (∀ k, 5 ≤ k → k ≤ 8 → C' d k = C o k) ∧ ∀ j k, 1 ≤ j → j ≤ 5 → k < lenH j → C' (d + j) k = C (o + j) k
theorem cg_s (I : CI x S C) {t : Nat} (ht : isS t) {k : Nat} {f : Int → Option (Int × jSt)} : fget (cS x S C) ((x + t : Nat) : Int) 8 k f = f (C t k) := by
  rcases ht with rfl | rfl
  · exact cg_20 I
  · exact cg_221 I
theorem cp_s (I : CI x S C) {t : Nat} (ht : isS t) {k : Nat} {z : Int} {f : jSt → Option (Int × jSt)} : fput (cS x S C) ((x + t : Nat) : Int) 8 k z f = f (cS x S (va_up C t (va_up (C t) k z))) := by
  rcases ht with rfl | rfl
  · exact cp_20 I
  · exact cp_221 I
theorem crs_0 (I : CI x S C) {t : Nat} (ht : isS t) {f : Int → Option (Int × jSt)} : fgetr (cS x S C) ((x + t : Nat) : Int) 8 0 f = f ((x + (t + 1) : Nat) : Int) := by
  rcases ht with rfl | rfl <;> exact c_r I (by decide) rfl rfl (by decide)
theorem CI_ss (I : CI x S C) {t : Nat} (ht : isS t) {k : Nat} (hk : k = 1 ∨ k = 2) {z : Int} : CI x S (va_up C t (va_up (C t) k z)) := by
  rcases ht with rfl | rfl <;> rcases hk with rfl | rfl <;> exact CI_up I rfl
theorem isH_rowS {t : Nat} (ht : isS t) {r : Nat} (hr : r < 30) : isH (t + 2 + 6 * r) := by
  rcases ht with rfl | rfl
  · exact isH_row hr
  · exact isH_row2 hr
theorem c_copyS (I : CI x S C) (hdo : (d = 20 ∧ o = 221) ∨ (d = 221 ∧ o = 20)) {fi n : Nat} (hf : C o 1 = (fi : Int)) (hn : C o 2 = (n : Int)) (f30 : fi < 30) (n30 : n ≤ 30) : ∃ C', f_X8_copyFrom ((x + d : Nat) : Int) ((x + o : Nat) : Int) (cS x S C) = some (0, cS x S C') ∧ CI x S C' ∧ (∀ i, (i < d ∨ d + 181 < i) → C' i = C i) ∧ (C' d 1 = (fi : Int) ∧ C' d 2 = (n : Int)) ∧ ∀ i, i < n → CpR C C' (d + 2 + 6 * ((fi + i) % 30)) (o + 2 + 6 * ((fi + i) % 30)) := by
  have hd : isS d := by unfold isS; omega
  have ho : isS o := by unfold isS; omega
  unfold f_X8_copyFrom f_X8_copyFrom_b18
  have J1 : CI x S (va_up C d (va_up (C d) 1 (fi : Int))) := CI_ss I hd (by omega)
  have eo : va_up C d (va_up (C d) 1 (fi : Int)) o = C o := va_up_ne _ _ (by omega)
  have J2 : CI x S (va_up (va_up C d (va_up (C d) 1 (fi : Int))) d (va_up (va_up C d (va_up (C d) 1 (fi : Int)) d) 2 (n : Int))) := CI_ss J1 hd (by omega)
  rw [cg_s I ho, hf, cp_s I hd, cg_s J1 ho, eo, hn, cp_s J1 hd]
  have k1 : va_up (va_up C d (va_up (C d) 1 (fi : Int))) d (va_up (va_up C d (va_up (C d) 1 (fi : Int)) d) 2 (n : Int)) d 1 = (fi : Int) := by rw [va_up_self, va_up_ne _ _ (by decide), va_up_self, va_up_self]
  have k2 : va_up (va_up C d (va_up (C d) 1 (fi : Int))) d (va_up (va_up C d (va_up (C d) 1 (fi : Int)) d) 2 (n : Int)) d 2 = (n : Int) := by rw [va_up_self, va_up_self]
  have k3 : ∀ i, i ≠ d → va_up (va_up C d (va_up (C d) 1 (fi : Int))) d (va_up (va_up C d (va_up (C d) 1 (fi : Int)) d) 2 (n : Int)) i = C i := fun i hi => by rw [va_up_ne _ _ hi, va_up_ne _ _ hi]
  generalize va_up (va_up C d (va_up (C d) 1 (fi : Int))) d (va_up (va_up C d (va_up (C d) 1 (fi : Int)) d) 2 (n : Int)) = C2 at *
  refine lpe (fun (r : Int → Int → Int → fK) i (c : Nat → Nat → Int) => r ((x + d : Nat) : Int) ((x + o : Nat) : Int) (i : Int) (cS x S c)) (fun i c => CI x S c ∧ (∀ i, (i < d ∨ d + 181 < i) → c i = C i) ∧ (c d 1 = (fi : Int) ∧ c d 2 = (n : Int)) ∧ ∀ i', i' < i → CpR C c (d + 2 + 6 * ((fi + i') % 30)) (o + 2 + 6 * ((fi + i') % 30))) (fun r => ∃ C', r = some (0, cS x S C') ∧ CI x S C' ∧ (∀ i, (i < d ∨ d + 181 < i) → C' i = C i) ∧ (C' d 1 = (fi : Int) ∧ C' d 2 = (n : Int)) ∧ ∀ i, i < n → CpR C C' (d + 2 + 6 * ((fi + i) % 30)) (o + 2 + 6 * ((fi + i) % 30))) (N := n) ?_ ?_ jN 0 C2 (by omega) (by unfold jN; omega) ⟨J2, fun i hi => k3 i (by omega), ⟨k1, k2⟩, fun k hk => by omega⟩
  · intro r i c hi hinv ih
    obtain ⟨Ic, h1, ⟨h2, h3⟩, h4⟩ := hinv
    show ∃ C', f_X8_copyFrom_b18B r _ _ _ _ = _ ∧ _
    unfold f_X8_copyFrom_b18B
    have q30 : (fi + i) % 30 < 30 := Nat.mod_lt _ (by omega)
    have em : irem32 (w32 ((fi : Int) + (i : Int))) 30 = (((fi + i) % 30 : Nat) : Int) := by
      rw [w32_of (by omega) (by omega), irem_n (by omega) (by omega) (by omega) (by omega)]
      omega
    rw [cg_s Ic hd, h3, if_neg (by omega), cg_s Ic hd, h2, if_neg (by decide), em, flet_eq, crs_0 Ic hd, c_row Ic hd q30, if_pos (by omega), crs_0 Ic ho, c_row Ic ho q30, if_pos (by omega), cv_h Ic (isH_rowS hd q30)]
    obtain ⟨q, hq⟩ : ∃ q, q = (fi + i) % 30 := ⟨_, rfl⟩
    rw [← hq] at q30 ⊢
    obtain ⟨C1, e1, I1, f1, g1, g2⟩ := c_copyFrom Ic (isH_rowS hd q30) (isH_rowS ho q30) (by omega)
    rw [e1, fcall_some, flet_eq, w32_of (by omega) (by omega), zs]
    refine ih C1 ⟨I1, fun j hj => by rw [f1 j (by omega), h1 j hj], ⟨by rw [f1 d (by omega)]; exact h2, by rw [f1 d (by omega)]; exact h3⟩, fun i' hi' => ?_⟩
    have cp : CpR C C1 (d + 2 + 6 * q) (o + 2 + 6 * q) := ⟨fun k a b => by rw [g1 k a b, h1 _ (by omega)], fun j k a b e => by rw [g2 j k a b e, h1 _ (by omega)]⟩
    have q2 : (fi + i') % 30 < 30 := Nat.mod_lt _ (by omega)
    by_cases e : (fi + i') % 30 = q
    · rw [e]; exact cp
    · have c0 := h4 i' (by
        by_cases z : i' = i
        · subst z; exact absurd hq.symm e
        · omega)
      exact ⟨fun k a b => by rw [f1 _ (by omega)]; exact c0.1 k a b, fun j k a b z => by rw [f1 _ (by omega)]; exact c0.2 j k a b z⟩
  · intro r c hinv
    obtain ⟨Ic, h1, ⟨h2, h3⟩, h4⟩ := hinv
    show ∃ C', f_X8_copyFrom_b18B r _ _ _ _ = _ ∧ _
    unfold f_X8_copyFrom_b18B
    rw [cg_s Ic hd, h3, if_pos (by omega)]
    exact ⟨c, rfl, Ic, h1, ⟨h2, h3⟩, h4⟩
end CS1
