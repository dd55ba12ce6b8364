-- a law's codes run, in the reference
section RW
variable {m : Nat} {S : jSt}
theorem r7 {G : Nat → Nat → Int} (R : RI m S G) {n : Nat} (hn : n < 330) {f : Int → Option (Int × jSt)} : fald (rS m S G) ((m + 7 : Nat) : Int) (n : Int) 2 f = f (G 7 n) := by
  rw [ra_7 R (by omega) (by omega), toNat_z]
theorem r8 {G : Nat → Nat → Int} (R : RI m S G) {n : Nat} (hn : n < 330) {f : Int → Option (Int × jSt)} : fald (rS m S G) ((m + 8 : Nat) : Int) (n : Int) 3 f = f (G 8 n) := by
  rw [ra_8 R (by omega) (by omega), toNat_z]
theorem t7 {G : Nat → Nat → Int} (R : RI m S G) {n : Nat} (hn : n < 330) {z : Int} {f : jSt → Option (Int × jSt)} : fast (rS m S G) ((m + 7 : Nat) : Int) (n : Int) 2 z f = f (rS m S (va_up G 7 (va_up (G 7) n z))) := by
  rw [rt_7 R (by omega) (by omega), toNat_z]
theorem t8 {G : Nat → Nat → Int} (R : RI m S G) {n : Nat} (hn : n < 330) {z : Int} {f : jSt → Option (Int × jSt)} : fast (rS m S G) ((m + 8 : Nat) : Int) (n : Int) 3 z f = f (rS m S (va_up G 8 (va_up (G 8) n z))) := by
  rw [rt_8 R (by omega) (by omega), toNat_z]
theorem wm1 {n : Nat} (h : n < 1000) : w32 (((n + 1 : Nat) : Int) - 1) = (n : Int) := by
  rw [w32_of (by omega) (by omega)]
  omega
theorem wp1 {n : Nat} (h : n < 1000) : w32 (((n + 1 : Nat) : Int) + (-1)) = (n : Int) := by
  rw [w32_of (by omega) (by omega)]
  omega
set_option maxHeartbeats 1600000 in
theorem sumLp {X cd a b lim : Nat} {d : Den} (hX : X + 2 < 2820) (hcd : cd ≤ 2212) (hb : b ≤ 303) (F : Nat → Nat → Int) (hlim : lim ≤ 9) (W : Wf (F 1)) (h2 : F 3 (X + 2) = (b : Int)) (hE : ∀ k, k < lim → bdv (F 6 k)) (hd : cex (F 3) (cd + 2 * a) lim (b - a) = some ([d], [])) : ∀ (n i : Nat) (G : Nat → Nat → Int) (s : SS), a ≤ i → i ≤ b → b - i < n → RI m S G → (∀ j, j ≠ 7 → j ≠ 8 → G j = F j) → cex (F 3) (cd + 2 * a) lim (i - a) = some s → SvR (G 7) (F 6) (wfn (F 1)) s.1 → SbR (G 8) (F 6) (wfn (F 1)) s.2 → ∃ F', jrep (fun _ _ _ _ _ _ _ => none) (fun r => f_X12_summedUp_b38B r) n (m : Int) (X : Int) (cd : Int) (s.1.length : Int) (s.2.length : Int) (i : Int) (rS m S G) = some (d (F 6) (wfn (F 1)), rS m S F') ∧ RI m S F' ∧ ∀ j, j ≠ 7 → j ≠ 8 → F' j = F j := by
  intro n
  induction n with
  | zero => intro i G s _ _ h; omega
  | succ n ih =>
    intro i G s hai hib hn R hf hs hv hbv
    rw [jrep_s]
    generalize hR1 : jrep (fun _ _ _ _ _ _ _ => none) (fun r => f_X12_summedUp_b38B r) n = r1 at *
    show ∃ F', f_X12_summedUp_b38B r1 (m : Int) (X : Int) (cd : Int) (s.1.length : Int) (s.2.length : Int) (i : Int) (rS m S G) = some (d (F 6) (wfn (F 1)), rS m S F') ∧ RI m S F' ∧ ∀ j, j ≠ 7 → j ≠ 8 → F' j = F j
    have g3 : G 3 = F 3 := hf 3 (by omega) (by omega)
    have g6 : G 6 = F 6 := hf 6 (by omega) (by omega)
    have g1 : G 1 = F 1 := hf 1 (by omega) (by omega)
    unfold f_X12_summedUp_b38B
    rw [r_tx R, w32_of (by omega) (by omega), ra_3 R (by omega) (by omega), show ((X : Int) + 2).toNat = X + 2 by omega, g3, h2]
    by_cases hib' : b ≤ i
    · have ei : i = b := by omega
      subst ei
      rw [hd] at hs
      injection hs with hs
      subst hs
      rw [if_pos (by omega), r_vl R, ra_7 R (by omega) (by omega), show (0 : Int).toNat = 0 from rfl]
      have e0 : G 7 0 = d (F 6) (wfn (F 1)) := hv.1.1
      rw [e0]
      exact ⟨G, rfl, R, hf⟩
    have slen : s.1.length ≤ i - a ∧ s.2.length ≤ i - a := by
      obtain ⟨s', q1, q2, q3⟩ := cex_p hs (i - a) (Nat.le_refl _)
      rw [hs] at q1
      injection q1 with q1
      subst q1
      exact ⟨q2, q3⟩
    obtain ⟨s1, hs1, _, _⟩ := cex_p hd (i - a + 1) (by omega)
    obtain ⟨s0, hs0, hok, hsx⟩ := cex_s hs1
    rw [hs] at hs0
    injection hs0 with hs0
    subst hs0
    rw [show cd + 2 * a + 2 * (i - a) = cd + 2 * i by omega] at hok hsx
    rw [show i - a + 1 = i + 1 - a by omega] at hs1
    rw [if_neg (by omega), r_tx R, w32_of (z := 2 * (i : Int)) (by omega) (by omega), w32_of (z := (cd : Int) + 2 * (i : Int)) (by omega) (by omega), ra_3 R (by omega) (by omega), show ((cd : Int) + 2 * (i : Int)).toNat = cd + 2 * i by omega, g3, r_tx R, w32_of (z := (cd : Int) + 2 * (i : Int) + 1) (by omega) (by omega), ra_3 R (by omega) (by omega), show ((cd : Int) + 2 * (i : Int) + 1).toNat = cd + 2 * i + 1 by omega, g3]
    obtain ⟨ok0, ok1, ok2⟩ := hok
    obtain ⟨o, ho⟩ : ∃ o : Nat, F 3 (cd + 2 * i) = (o : Int) := ⟨(F 3 (cd + 2 * i)).toNat, by omega⟩
    generalize F 3 (cd + 2 * i + 1) = v at *
    rw [ho] at ok0 ok1 ok2 hsx
    rw [ho]
    rw [toNat_z] at hsx
    have go : ∀ (G' : Nat → Nat → Int) (z1 z2 : Int), RI m S G' → (∀ j, j ≠ 7 → j ≠ 8 → G' j = F j) → SvR (G' 7) (F 6) (wfn (F 1)) s1.1 → SbR (G' 8) (F 6) (wfn (F 1)) s1.2 → z1 = (s1.1.length : Int) → z2 = (s1.2.length : Int) → ∃ F', f_X12_summedUp_b400 r1 (m : Int) (X : Int) (cd : Int) z1 z2 (i : Int) (rS m S G') = some (d (F 6) (wfn (F 1)), rS m S F') ∧ RI m S F' ∧ ∀ j, j ≠ 7 → j ≠ 8 → F' j = F j := by
      intro G' z1 z2 R' hf' hv' hb' e1 e2
      unfold f_X12_summedUp_b400
      rw [flet_eq, w32_of (by omega) (by omega), zs, e1, e2]
      exact ih (i + 1) G' s1 (by omega) (by omega) (by omega) R' hf' hs1 hv' hb'
    have fr7 : ∀ (G' : Nat → Nat → Int) (q : Nat → Int), (∀ j, j ≠ 7 → j ≠ 8 → G' j = F j) → ∀ j, j ≠ 7 → j ≠ 8 → va_up G' 7 q j = F j := fun G' q h j a b => by rw [va_up_ne _ _ a]; exact h j a b
    have fr8 : ∀ (G' : Nat → Nat → Int) (q : Nat → Int), (∀ j, j ≠ 7 → j ≠ 8 → G' j = F j) → ∀ j, j ≠ 7 → j ≠ 8 → va_up G' 8 q j = F j := fun G' q h j a b => by rw [va_up_ne _ _ b]; exact h j a b
    have W' : Wf (G 1) := by rw [g1]; exact W
    obtain ⟨vs, bs⟩ := s
    rcases sx_way hsx with ⟨eo, es⟩ | ⟨eo, es⟩ | ⟨eo, d1, r, e, es⟩ | ⟨eo, d2, d1, r, b1, t, e, e', es⟩ | ⟨eo, d2, d1, r, e, es⟩ | ⟨eo, d1, r, e, es⟩ | ⟨eo, d2, d1, r, e, es⟩ | ⟨eo, d2, d1, r, e, es⟩ | ⟨eo, b1, t, e, es⟩ | ⟨eo, b2, b1, t, e, es⟩
    · -- a number
      subst eo; subst es
      have hn' : vs.length < 330 := by have := slen.1; simp only at this; omega
      rw [if_neg (by decide), r_vl R, if_pos (by decide)]
      unfold f_X12_summedUp_b112
      rw [t7 R hn', flet_eq, w32_of (by omega) (by omega)]
      refine go _ _ _ (rV R (by omega) _) (fr7 _ _ hf) ?_ ?_ (by rw [zs]; rfl) rfl
      · rw [va_up_self]
        exact ⟨⟨va_up_self _ _ _, by unfold bdv; show _ ≤ v ∧ v ≤ _; omega⟩, SvR_up _ _ _ _ _ _ (Nat.le_refl _) hv⟩
      · rw [va_up_ne _ _ (by omega)]; exact hbv
    · -- a name
      subst eo; subst es
      have hn' : vs.length < 330 := by have := slen.1; simp only at this; omega
      have hvb : 0 ≤ v ∧ v < (lim : Int) := by omega
      rw [if_neg (by decide), r_vl R, if_neg (by decide), r_nm R, ra_6 R (by omega) (by omega), g6]
      unfold f_X12_summedUp_b112
      rw [t7 R hn', flet_eq, w32_of (by omega) (by omega)]
      refine go _ _ _ (rV R (by omega) _) (fr7 _ _ hf) ?_ ?_ (by rw [zs]; rfl) rfl
      · rw [va_up_self]
        exact ⟨⟨va_up_self _ _ _, hE v.toNat (by omega)⟩, SvR_up _ _ _ _ _ _ (Nat.le_refl _) hv⟩
      · rw [va_up_ne _ _ (by omega)]; exact hbv
    · -- worths
      subst eo
      have e : vs = d1 :: r := e
      subst e; subst es
      have hl : r.length + 1 ≤ i - a := by have := slen.1; simpa using this
      rw [if_pos (by decide), if_neg (by decide), if_neg (by decide), if_pos (by decide)]
      unfold f_X12_summedUp_b172 f_X12_summedUp_b212
      rw [r_vl R, if_neg (by decide), r_vl R]
      show ∃ F', fald (rS m S G) ((m + 7 : Nat) : Int) (w32 (((r.length + 1 : Nat) : Int) - 1)) 2 _ = _ ∧ _
      rw [wm1 (by omega), r7 R (by omega), hv.1.1, r_cv R, s_worthsOf R W' _ hv.1.2, fcall_some, g1]
      show ∃ F', fast (rS m S G) ((m + 7 : Nat) : Int) (w32 (((r.length + 1 : Nat) : Int) - 1)) 2 _ _ = _ ∧ _
      rw [wm1 (by omega), t7 R (by omega)]
      refine go _ _ _ (rV R (by omega) _) (fr7 _ _ hf) ?_ ?_ rfl rfl
      · rw [va_up_self]
        exact ⟨⟨va_up_self _ _ _, wfn_b W _⟩, SvR_up _ _ _ _ _ _ (Nat.le_refl _) hv.2⟩
      · rw [va_up_ne _ _ (by omega)]; exact hbv
    · -- the one that is chosen
      subst eo
      have e : vs = d2 :: d1 :: r := e
      have e' : bs = b1 :: t := e'
      subst e; subst e'; subst es
      have hl : r.length + 2 ≤ i - a := by have := slen.1; simpa using this
      have hl2 : t.length + 1 ≤ i - a := by have := slen.2; simpa using this
      rw [if_pos (by decide), if_pos (by decide)]
      show ∃ F', flet (w32 (((r.length + 1 + 1 : Nat) : Int) + (-1))) _ = _ ∧ _
      rw [wp1 (by omega), flet_eq]
      show ∃ F', flet (w32 (((t.length + 1 : Nat) : Int) + (-1))) _ = _ ∧ _
      rw [wp1 (by omega), flet_eq, r_tr R, r8 R (by omega), hbv.1]
      by_cases hb1 : b1 (F 6) (wfn (F 1)) = true
      · rw [if_pos hb1, if_neg (by decide)]
        refine go _ _ _ R hf ?_ hbv.2 rfl rfl
        exact ⟨⟨by show G 7 r.length = (if b1 (F 6) (wfn (F 1)) = true then _ else _); rw [if_pos hb1]; exact hv.2.1.1, by show bdv (if b1 (F 6) (wfn (F 1)) = true then _ else _); rw [if_pos hb1]; exact hv.2.1.2⟩, hv.2.2⟩
      · rw [if_neg hb1, if_pos rfl, r_vl R, r_vl R]
        have e1 : G 7 (r.length + 1) = d2 (F 6) (wfn (F 1)) := hv.1.1
        rw [r7 R (by omega), e1, wm1 (by omega), t7 R (by omega)]
        refine go _ _ _ (rV R (by omega) _) (fr7 _ _ hf) ?_ ?_ rfl rfl
        · rw [va_up_self]
          exact ⟨⟨by rw [va_up_self]; show _ = (if b1 (F 6) (wfn (F 1)) = true then _ else _); rw [if_neg hb1], by show bdv (if b1 (F 6) (wfn (F 1)) = true then _ else _); rw [if_neg hb1]; exact hv.1.2⟩, SvR_up _ _ _ _ _ _ (Nat.le_refl _) hv.2.2⟩
        · rw [va_up_ne _ _ (by omega)]; exact hbv.2
    · -- even
      subst eo
      have e : vs = d2 :: d1 :: r := e
      subst e; subst es
      have hl : r.length + 2 ≤ i - a := by have := slen.1; simpa using this
      rw [if_pos (by decide), if_neg (by decide), if_neg (by decide), if_neg (by decide), if_neg (by decide)]
      show ∃ F', flet (w32 (((r.length + 1 + 1 : Nat) : Int) + (-1))) _ = _ ∧ _
      rw [wp1 (by omega), flet_eq, r_vl R, if_pos (by decide), r_vl R, wm1 (by omega), r7 R (by omega), hv.2.1.1, r_vl R, r7 R (by omega)]
      have e1 : G 7 (r.length + 1) = d2 (F 6) (wfn (F 1)) := hv.1.1
      rw [e1, s_evenBy hv.2.1.2 hv.1.2, fcall_some]
      unfold f_X12_summedUp_b283
      rw [t7 R (by omega)]
      refine go _ _ _ (rV R (by omega) _) (fr7 _ _ hf) ?_ ?_ rfl rfl
      · rw [va_up_self]
        exact ⟨⟨va_up_self _ _ _, evn_b hv.2.1.2⟩, SvR_up _ _ _ _ _ _ (Nat.le_refl _) hv.2.2⟩
      · rw [va_up_ne _ _ (by omega)]; exact hbv
    · -- minus
      subst eo
      have e : vs = d1 :: r := e
      subst e; subst es
      have hl : r.length + 1 ≤ i - a := by have := slen.1; simpa using this
      have hb1 := hv.1.2
      unfold bdv at hb1
      rw [if_pos (by decide), if_neg (by decide), if_pos (by decide)]
      unfold f_X12_summedUp_b172 f_X12_summedUp_b212
      rw [r_vl R, if_pos (by decide), r_vl R]
      show ∃ F', fald (rS m S G) ((m + 7 : Nat) : Int) (w32 (((r.length + 1 : Nat) : Int) - 1)) 2 _ = _ ∧ _
      rw [wm1 (by omega), r7 R (by omega), hv.1.1, w64_of (by omega) (by omega)]
      show ∃ F', fast (rS m S G) ((m + 7 : Nat) : Int) (w32 (((r.length + 1 : Nat) : Int) - 1)) 2 _ _ = _ ∧ _
      rw [wm1 (by omega), t7 R (by omega)]
      refine go _ _ _ (rV R (by omega) _) (fr7 _ _ hf) ?_ ?_ rfl rfl
      · rw [va_up_self]
        exact ⟨⟨va_up_self _ _ _, by unfold bdv; show _ ≤ - d1 (F 6) (wfn (F 1)) ∧ - d1 (F 6) (wfn (F 1)) ≤ _; omega⟩, SvR_up _ _ _ _ _ _ (Nat.le_refl _) hv.2⟩
      · rw [va_up_ne _ _ (by omega)]; exact hbv
    · -- plus, less, times, over
      have e : vs = d2 :: d1 :: r := e
      subst e; subst es
      have hl : r.length + 2 ≤ i - a := by have := slen.1; simpa using this
      rw [if_pos (by omega), if_neg (by omega), if_neg (by omega), if_neg (by omega), if_neg (by omega)]
      show ∃ F', flet (w32 (((r.length + 1 + 1 : Nat) : Int) + (-1))) _ = _ ∧ _
      rw [wp1 (by omega), flet_eq, r_vl R, if_neg (by omega), r_vl R, wm1 (by omega), r7 R (by omega), hv.2.1.1, r_vl R, r7 R (by omega)]
      have e1 : G 7 (r.length + 1) = d2 (F 6) (wfn (F 1)) := hv.1.1
      rw [e1, s_two eo hv.2.1.2 hv.1.2, fcall_some]
      unfold f_X12_summedUp_b283
      rw [t7 R (by omega)]
      refine go _ _ _ (rV R (by omega) _) (fr7 _ _ hf) ?_ ?_ rfl rfl
      · rw [va_up_self]
        exact ⟨⟨va_up_self _ _ _, ar2_b _ _ _⟩, SvR_up _ _ _ _ _ _ (Nat.le_refl _) hv.2.2⟩
      · rw [va_up_ne _ _ (by omega)]; exact hbv
    · -- an ask
      have e : vs = d2 :: d1 :: r := e
      subst e; subst es
      have hl : r.length + 2 ≤ i - a := by have := slen.1; simpa using this
      have hl2 : bs.length ≤ i - a := slen.2
      rw [if_pos (by omega), if_neg (by omega), if_neg (by omega), if_neg (by omega), if_pos (by omega), if_neg (by omega)]
      show ∃ F', flet (w32 (((r.length + 1 + 1 : Nat) : Int) + (-2))) _ = _ ∧ _
      rw [w32_of (by omega) (by omega), show ((r.length + 1 + 1 : Nat) : Int) + (-2) = (r.length : Int) by omega, flet_eq, r_tr R, r_vl R, r7 R (by omega), hv.2.1.1, r_vl R, w32_of (by omega) (by omega), zs, r7 R (by omega)]
      have e1 : G 7 (r.length + 1) = d2 (F 6) (wfn (F 1)) := hv.1.1
      rw [e1, s_asked _ _ _ eo.1, fcall_some]
      show ∃ F', fast (rS m S G) ((m + 8 : Nat) : Int) (bs.length : Int) 3 _ _ = _ ∧ _
      rw [t8 R (by omega), flet_eq]
      show ∃ F', f_X12_summedUp_b400 r1 (m : Int) (X : Int) (cd : Int) (r.length : Int) (w32 ((bs.length : Int) + 1)) (i : Int) _ = _ ∧ _
      rw [w32_of (by omega) (by omega), zs]
      refine go _ _ _ (rV R (by omega) _) (fr8 _ _ hf) ?_ ?_ rfl rfl
      · rw [va_up_ne _ _ (by omega)]; exact hv.2.2
      · rw [va_up_self]
        exact ⟨va_up_self _ _ _, SbR_up _ _ _ _ _ _ (Nat.le_refl _) hbv⟩
    · -- not
      subst eo
      have e : bs = b1 :: t := e
      subst e; subst es
      have hl2 : t.length + 1 ≤ i - a := by have := slen.2; simpa using this
      rw [if_pos (by decide), if_neg (by decide), if_neg (by decide), if_neg (by decide), if_pos (by decide), if_pos (by decide), if_pos (by decide), r_tr R, r_tr R]
      unfold f_X12_summedUp_b363
      show ∃ F', fald (rS m S G) ((m + 8 : Nat) : Int) (w32 (((t.length + 1 : Nat) : Int) - 1)) 3 _ = _ ∧ _
      rw [wm1 (by omega), r8 R (by omega), hbv.1]
      have fin : ∀ z : Int, z = (if (!b1 (F 6) (wfn (F 1))) = true then 1 else 0) → ∃ F', fast (rS m S G) ((m + 8 : Nat) : Int) (w32 (((t.length + 1 : Nat) : Int) - 1)) 3 z (fun S34 => f_X12_summedUp_b400 r1 (m : Int) (X : Int) (cd : Int) (vs.length : Int) ((t.length + 1 : Nat) : Int) (i : Int) S34) = some (d (F 6) (wfn (F 1)), rS m S F') ∧ RI m S F' ∧ ∀ j, j ≠ 7 → j ≠ 8 → F' j = F j := fun z hz => by
        rw [wm1 (by omega), t8 R (by omega)]
        refine go _ _ _ (rV R (by omega) _) (fr8 _ _ hf) ?_ ?_ rfl rfl
        · rw [va_up_ne _ _ (by omega)]; exact hv
        · rw [va_up_self]
          exact ⟨by rw [va_up_self]; exact hz, SbR_up _ _ _ _ _ _ (Nat.le_refl _) hbv.2⟩
      by_cases hb1 : b1 (F 6) (wfn (F 1)) = true
      · rw [if_pos hb1, if_neg (by decide)]
        exact fin 0 (by rw [hb1]; rfl)
      · rw [if_neg hb1, if_pos rfl]
        have hb2 : b1 (F 6) (wfn (F 1)) = false := by simpa using hb1
        exact fin 1 (by rw [hb2]; rfl)
    · -- and, or
      have e : bs = b2 :: b1 :: t := e
      subst e; subst es
      have hl2 : t.length + 2 ≤ i - a := by have := slen.2; simpa using this
      rw [if_pos (by omega), if_neg (by omega), if_neg (by omega), if_neg (by omega), if_pos (by omega), if_pos (by omega), if_neg (by omega)]
      show ∃ F', flet (w32 (((t.length + 1 + 1 : Nat) : Int) + (-1))) _ = _ ∧ _
      rw [wp1 (by omega), flet_eq, r_tr R, r_tr R, wm1 (by omega), r8 R (by omega), hbv.2.1, r_tr R, r8 R (by omega)]
      have e1 : G 8 (t.length + 1) = (if b2 (F 6) (wfn (F 1)) = true then 1 else 0) := hbv.1
      rw [e1, s_joinedR, fcall_some, t8 R (by omega)]
      refine go _ _ _ (rV R (by omega) _) (fr8 _ _ hf) ?_ ?_ rfl rfl
      · rw [va_up_ne _ _ (by omega)]; exact hv
      · rw [va_up_self]
        exact ⟨va_up_self _ _ _, SbR_up _ _ _ _ _ _ (Nat.le_refl _) hbv.2.2⟩
end RW
