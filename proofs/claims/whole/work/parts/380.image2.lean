-- image, back
section IM
variable {x : Nat} {S : jSt} {C : Nat → Nat → Int} {a a' : Nat → Int}
theorem undo_lt (h : ∀ k, k < 4903 → a' k = a k) (h4 : 1 ≤ a 4 ∧ a 4 ≤ 30) : ∀ k, k < 4903 → undoA a' k = undoA a k := by
  intro k hk
  have e0 : a' 0 = a 0 := h 0 (by omega)
  have e1 : a' 1 = a 1 := h 1 (by omega)
  have e4 : a' 4 = a 4 := h 4 (by omega)
  have eX : undX a' = undX a := by unfold undX; rw [e4]
  have hX : 193 ≤ undX a ∧ undX a + 155 ≤ 4843 := undX_lt h4
  have ek : a' k = a k := h k hk
  have hr : ∀ q, q < 155 → a' (undX a + q) = a (undX a + q) := fun q hq => h _ (by omega)
  unfold undoA
  rw [eX, e0, e1, e4]
  by_cases k4 : k = 4
  · rw [if_pos k4, if_pos k4]
  rw [if_neg k4, if_neg k4]
  by_cases k7 : 7 ≤ k ∧ k < 11
  · rw [if_pos k7, if_pos k7, Nat.add_assoc, hr _ (by omega)]
  rw [if_neg k7, if_neg k7]
  have hx0 := hr 0 (by omega)
  have hx1 := hr 1 (by omega)
  rw [Nat.add_zero] at hx0
  by_cases k11 : 11 ≤ k ∧ k < 71
  · rw [if_pos k11, if_pos k11, hx0, Nat.add_assoc (undX a) 6, Nat.add_assoc (undX a) 7, hr (6 + 2 * ((k - 11) / 5)) (by omega), hr (7 + 2 * ((k - 11) / 5)) (by omega), ek, h (11 + 5 * ((k - 11) / 5) + 4) (by omega)]
  rw [if_neg k11, if_neg k11]
  by_cases k71 : 71 ≤ k ∧ k < 141
  · rw [if_pos k71, if_pos k71, hx1, ek, h (71 + 14 * ((k - 71) / 14) + 13) (by omega)]
    by_cases k13 : (k - 71) % 14 < 13
    · rw [Nat.add_assoc (undX a + 30), Nat.add_assoc (undX a) 30, hr (30 + (13 * ((k - 71) / 14) + (k - 71) % 14)) (by omega)]
    · simp only [if_neg k13]
  rw [if_neg k71, if_neg k71]
  by_cases k48 : 4843 ≤ k ∧ k < 4903
  · rw [if_pos k48, if_pos k48, Nat.add_assoc, hr _ (by omega)]
  rw [if_neg k48, if_neg k48, ek]
theorem und_lt : ∀ (j : Nat) {a a' : Nat → Int}, (∀ k, k < 4903 → a' k = a k) → (j : Int) ≤ a 4 → a 4 ≤ 30 → ∀ k, k < 4903 → und j a' k = und j a k
  | 0, a, a', h, _, _, k, hk => h k hk
  | j + 1, a, a', h, hj, h4, k, hk => by
    rw [und, und]
    exact und_lt j (undo_lt h (by omega)) (by rw [undoA_4]; omega) (by rw [undoA_4]; omega) k hk
theorem Rel_a {t h s : Nat} (R : Rel a C t h s) (e : ∀ k, k < 4903 → a' k = a k) : Rel a' C t h s := by
  have W := (Rel_h R).2.2.1
  have w0 := W.1
  obtain ⟨⟨t0, t1, t2, t3, t4⟩, TX, WX, ⟨⟨s1, s2, s3⟩, RS⟩, RO⟩ := R
  have e4 : a' 4 = a 4 := e 4 (by omega)
  refine ⟨⟨by rw [e 0 (by omega)]; exact t0, by rw [e 1 (by omega)]; exact t1, by rw [e 2 (by omega)]; exact t2, by rw [e 3 (by omega)]; exact t3, fun l hl => ?_⟩, TdX_ext TX WX (fun k hk => e k (by omega)) ⟨rfl, rfl⟩ (fun _ _ _ => rfl), WfX_ext WX (fun k hk => e k (by omega)) (by rw [e 0 (by omega)]; omega) (by rw [e 1 (by omega)]; omega), ⟨⟨by rw [e4]; exact s1, s2, by rw [e4]; exact s3⟩, fun j hj => ?_⟩, fun k hk => ?_⟩
  · rw [e 0 (by omega)] at hl
    rw [e _ (by omega), e _ (by omega)]
    exact t4 l hl
  · rw [e4] at hj ⊢
    have eu := und_lt j e hj s3.2
    have hx := RS j hj
    exact HX_ext hx (fun k k1 k2 => eu k (by omega)) (fun k k1 k2 => eu k k2) (by rw [eu 4 (by omega)]; exact hx.2.2.1.2.2.2.2.1)
  · rw [e4] at hk
    rw [e 0 (by omega), e 1 (by omega), e _ (by omega), e _ (by omega)]
    exact RO k hk
theorem Rel_cp {C' : Nat → Nat → Int} {t h s t' h' s' : Nat} (R : Rel a C t h s) (T : ∀ k, (k = 0 ∨ k = 1 ∨ k = 4 ∨ k = 6 ∨ k = 7 ∨ k = 11) → C' t' k = C t k) (TA : ∀ j k, arT j → k < lenT j → C' (t' + j) k = C (t + j) k) (HH : CpR C C' h' h) (s1 : C' s' 1 = C s 1) (s2 : C' s' 2 = C s 2) (SR : ∀ i : Nat, (i : Int) < a 4 → CpR C C' (s' + 2 + 6 * (((C s 1).toNat + i) % 30)) (s + 2 + 6 * (((C s 1).toNat + i) % 30))) : Rel a C' t' h' s' := by
  have W := (Rel_h R).2.2.1
  have w0 := W.1
  obtain ⟨⟨t0, t1, t2, t3, t4⟩, ⟨⟨p1, p2⟩, p3, p4, p5, p6⟩, WX, ⟨⟨c1, c2, c3⟩, RS⟩, RO⟩ := R
  have x5 := WX.1
  refine ⟨⟨by rw [T 0 (by omega)]; exact t0, by rw [T 1 (by omega)]; exact t1, by rw [T 4 (by omega)]; exact t2, by rw [T 6 (by omega)]; exact t3, fun l hl => ?_⟩, ⟨⟨by rw [T 7 (by omega)]; exact p1, by rw [T 11 (by omega)]; exact p2⟩, fun k hk => ?_, fun k hk => ?_, fun f hf => ?_, fun k hk => ?_⟩, WX, ⟨⟨by rw [s2]; exact c1, by rw [s1]; exact c2, c3⟩, fun j hj => ?_⟩, RO⟩
  · rw [TA 1 l (by unfold arT; omega) (by show l < 12; omega), TA 2 l (by unfold arT; omega) (by show l < 12; omega)]; exact t4 l hl
  · rw [TA 4 k (by unfold arT; omega) (by show k < 8; omega), TA 5 k (by unfold arT; omega) (by show k < 8; omega), TA 6 k (by unfold arT; omega) (by show k < 8; omega)]; exact p3 k hk
  · rw [TA 7 k (by unfold arT; omega) (by show k < 8; omega), TA 8 k (by unfold arT; omega) (by show k < 8; omega)]; exact p4 k hk
  · rw [TA 10 f (by unfold arT; omega) (by show f < 6; omega)]; exact p5 f hf
  · rw [TA 12 k (by unfold arT; omega) (by show k < 6; omega)]; exact p6 k hk
  · rw [s1]
    have hx := RS j hj
    unfold offR at hx ⊢
    by_cases j0 : j = 0
    · rw [if_pos j0] at hx ⊢
      exact HX_cp hx HH.1 HH.2
    · rw [if_neg j0] at hx ⊢
      have q := SR (a 4 - (j : Int)).toNat (by omega)
      rw [show ((C s 1).toNat + (a 4 - (j : Int)).toNat) % 30 = ((C s 1 + a 4 - (j : Int)) % 30).toNat by omega] at q
      exact HX_cp hx q.1 q.2
def cpN (n : Nat) (a b : Nat → Int) : Nat → Int := fun k => if k < n then a k else b k
theorem s_copy {m : Nat} {F : Nat → Nat → Int} (R : RI m S F) {u v : Nat} (h : (u = 1 ∧ v = 2) ∨ (u = 2 ∧ v = 1)) : f_X12_copy ((m + u : Nat) : Int) ((m + v : Nat) : Int) (rS m S F) = some (0, rS m S (va_up F v (cpN 4903 (F u) (F v)))) := by
  unfold f_X12_copy f_X12_copy_b2
  have al : ∀ (G : Nat → Nat → Int) (i : Nat) (f : Int → Option (Int × jSt)), RI m S G → i < 4903 → fald (rS m S G) ((m + u : Nat) : Int) (i : Int) 1 f = f (G u i) := fun G i f Q hi => by
    rcases h with ⟨rfl, rfl⟩ | ⟨rfl, rfl⟩
    · rw [g_ald (i := 1) (by omega) Q.1.2.1 (by omega) (by omega), toNat_z]
    · rw [g_ald (i := 2) (by omega) Q.1.2.2.1 (by omega) (by omega), toNat_z]
  have st : ∀ (G : Nat → Nat → Int) (i : Nat) (z : Int) (f : jSt → Option (Int × jSt)), RI m S G → i < 4903 → fast (rS m S G) ((m + v : Nat) : Int) (i : Int) 1 z f = f (rS m S (va_up G v (va_up (G v) i z))) := fun G i z f Q hi => by
    rcases h with ⟨rfl, rfl⟩ | ⟨rfl, rfl⟩
    · rw [rt_2 Q (by omega) (by omega), toNat_z]
    · rw [r_st Q (by omega) (by omega), toNat_z]
  have e0 : F = va_up F v (cpN 0 (F u) (F v)) := by
    rw [show cpN 0 (F u) (F v) = F v from by funext k; unfold cpN; rw [if_neg (by omega)]]
    exact (up_same F v).symm
  have ne : u ≠ v := by omega
  have key := lp (fun (r : Int → Int → Int → fK) i => r ((m + u : Nat) : Int) ((m + v : Nat) : Int) (i : Int) (rS m S (va_up F v (cpN i (F u) (F v))))) (z := fun _ _ _ _ => none) (s := fun r => f_X12_copy_b2B r) (N := 4903) (res := some (0, rS m S (va_up F v (cpN 4903 (F u) (F v))))) ?_ ?_ jN 0 (by omega) (by unfold jN; omega)
  · rw [← e0] at key
    exact key
  · intro r i hi hr
    show f_X12_copy_b2B r _ _ _ _ = _
    unfold f_X12_copy_b2B
    have Q : RI m S (va_up F v (cpN i (F u) (F v))) := rV R (by omega) _
    rw [if_neg (by omega), al _ i _ Q hi, st _ i _ _ Q hi, va_up_ne _ _ ne, va_up_self]
    rw [show va_up (va_up F v (cpN i (F u) (F v))) v (va_up (cpN i (F u) (F v)) i (F u i)) = va_up F v (cpN (i + 1) (F u) (F v)) from by
      funext q
      by_cases hq : q = v
      · subst hq
        rw [va_up_self, va_up_self]
        funext k
        unfold cpN
        by_cases hk : k = i
        · subst hk; rw [va_up_self, if_pos (by omega)]
        · rw [va_up_ne _ _ hk]
          by_cases h2 : k < i
          · rw [if_pos h2, if_pos (by omega)]
          · rw [if_neg h2, if_neg (by omega)]
      · rw [va_up_ne _ _ hq, va_up_ne _ _ hq, va_up_ne _ _ hq]]
    rw [flet_eq, w32_of (by omega) (by omega), zs]
    exact hr
  · intro r
    show f_X12_copy_b2B r _ _ _ _ = _
    unfold f_X12_copy_b2B
    rw [if_pos (by omega)]
theorem cv_t {t : Nat} (I : CI x S C) (ht : isT t) {q : Option (Int × jSt)} {k : Int → jSt → Option (Int × jSt)} : fcallv (cS x S C) ((x + t : Nat) : Int) 10 q k = fcall q k := by
  rcases ht with rfl | rfl
  · exact cv_1 I
  · exact cv_202 I
theorem cv_s {t : Nat} (I : CI x S C) (ht : isS t) {q : Option (Int × jSt)} {k : Int → jSt → Option (Int × jSt)} : fcallv (cS x S C) ((x + t : Nat) : Int) 8 q k = fcall q k := by
  rcases ht with rfl | rfl
  · exact cv_20 I
  · exact cv_221 I
/-- the three copies of the class -/
theorem c_copy3 (I : CI x S C) {t h s t' h' s' : Nat} (hc : (t = 1 ∧ h = 14 ∧ s = 20 ∧ t' = 202 ∧ h' = 215 ∧ s' = 221) ∨ (t = 202 ∧ h = 215 ∧ s = 221 ∧ t' = 1 ∧ h' = 14 ∧ s' = 20)) (R : Rel a C t h s) (hN : ∀ k, k < 4 → C (t + 3) k < 0 ∨ jty S (C (t + 3) k) = (0, 6)) : ∃ C1 C2 C3, f_X10_copyFrom ((x + t' : Nat) : Int) ((x + t : Nat) : Int) (cS x S C) = some (0, cS x S C1) ∧ CI x S C1 ∧ f_X1_copyFrom ((x + h' : Nat) : Int) ((x + h : Nat) : Int) (cS x S C1) = some (0, cS x S C2) ∧ CI x S C2 ∧ f_X8_copyFrom ((x + s' : Nat) : Int) ((x + s : Nat) : Int) (cS x S C2) = some (0, cS x S C3) ∧ CI x S C3 ∧ Rel a C3 t' h' s' ∧ (∀ i, (i < t' ∨ t' + 200 < i) → C3 i = C i) ∧ ∀ k, k < 4 → C3 (t' + 3) k = C (t + 3) k := by
  obtain ⟨C1, e1, I1, f1, g1, g2, g3⟩ := c_copyT I (d := t') (o := t) (by omega) hN
  have hh : isH h := by unfold isH; omega
  have hh' : isH h' := by unfold isH; omega
  obtain ⟨C2, e2, I2, f2, k1, k2⟩ := c_copyFrom I1 hh' hh (by omega)
  obtain ⟨⟨c1, c2, c3⟩, _⟩ := R.2.2.2.1
  have es : C2 s = C s := by rw [f2 s (by omega), f1 s (by omega)]
  obtain ⟨C3, e3, I3, f3, ⟨l1, l2⟩, l3⟩ := c_copyS I2 (d := s') (o := s) (by omega) (fi := (C s 1).toNat) (n := (a 4).toNat) (by rw [es]; omega) (by rw [es]; omega) (by omega) (by omega)
  refine ⟨C1, C2, C3, e1, I1, e2, I2, e3, I3, Rel_cp R (fun k hk => ?_) (fun j k hj hk => ?_) ⟨fun k p q => ?_, fun j k p q z => ?_⟩ (by rw [l1]; omega) (by rw [l2]; omega) (fun i hi => ?_), fun i hi => ?_, fun k hk => ?_⟩
  · rw [f3 t' (by omega), f2 t' (by omega), g1 k hk]
  · have : j ≤ 12 := by unfold arT at hj; omega
    rw [f3 _ (by omega), f2 _ (by omega), g2 j k hj hk]
  · rw [f3 _ (by omega), k1 k p q, f1 _ (by omega)]
  · rw [f3 _ (by omega), k2 j k p q z, f1 _ (by omega)]
  · have q := l3 i (by omega)
    have r30 : ((C s 1).toNat + i) % 30 < 30 := Nat.mod_lt _ (by omega)
    refine ⟨fun k z1 z2 => ?_, fun j k z1 z2 z3 => ?_⟩
    · rw [q.1 k z1 z2, f2 _ (by omega), f1 _ (by omega)]
    · rw [q.2 j k z1 z2 z3, f2 _ (by omega), f1 _ (by omega)]
  · rw [f3 _ (by omega), f2 _ (by omega), f1 _ (by omega)]
  · rw [f3 _ (by omega), f2 _ (by omega), g3 k hk]
theorem NSc_h {Z : jSt} {F : Nat → Nat → Int} {v : Int} (h : NSc x Z v) : v < 0 ∨ jty (gS (x + 426) 12 Z F) v = (0, 6) := by
  rcases h with h | ⟨p, rfl, h3, h4, h5⟩
  · exact Or.inl h
  · refine Or.inr ?_
    show Z.2.2.1 ((p : Int)).toNat = _
    rw [toNat_z]
    exact h5
theorem g_image : Good x (f_X11_image (x : Int)) (f_X12_image ((x + 426 : Nat) : Int)) := Good_z (fun Z C F h => by
  have I := CI_g (y := x + 426) (N := 12) (F := F) h.1.1
  have hI := h
  obtain ⟨⟨I0, RZ, hZ⟩, Rl, Ri, ⟨V, Rw, T1, T2, T3⟩, ⟨p1, p2, p3⟩, ⟨f1, f2⟩, wr⟩ := h
  have W := INV_W hI
  have w2 := W.1.2.2.1
  obtain ⟨C1, C2, C3, e1, I1, e2, I2, e3, I3, R3, fr, sl⟩ := c_copy3 I (Or.inl ⟨rfl, rfl, rfl, rfl, rfl, rfl⟩) Rl (fun k hk => NSc_h ((T3 k).2 hk).1)
  have c14 : C3 14 7 = F 1 7 := by rw [fr 14 (by omega)]; exact (Rel_h Rl).1.1.1
  have g : ∀ i, i ≠ 2 → va_up F 2 (cpN 4903 (F 1) (F 2)) i = F i := fun i hi => va_up_ne _ _ hi
  have g2 : va_up F 2 (cpN 4903 (F 1) (F 2)) 2 = cpN 4903 (F 1) (F 2) := va_up_self _ _ _
  have e : ∀ k, k < 4903 → cpN 4903 (F 1) (F 2) k = F 1 k := fun k hk => if_pos hk
  refine ⟨F 1 7, C3, va_up F 2 (cpN 4903 (F 1) (F 2)), ?_, fun S2 hS => ?_, ⟨⟨I3, rV RZ (by omega) _, hZ⟩, ?_, ?_, ⟨V, Rw, fun t ht => ?_, ?_, fun t => ?_⟩, ⟨?_, ?_, ?_⟩, ⟨?_, ?_⟩, ?_⟩⟩
  · unfold f_X11_image
    rw [cr0_3 I, cr0_0 I, cv_t I (Or.inr rfl), e1, fcall_some, cr0_4 I1, cr0_1 I1, cv_h I1 (Or.inr (Or.inl rfl)), e2, fcall_some, cr0_5 I2, cr0_2 I2, cv_s I2 (Or.inr rfl), e3, fcall_some, cr0_1 I3, cg_h I3 iH14, c14]
  · have R := RI_k RZ hS
    unfold f_X12_image
    have R2 : RI (x + 426) S2 (va_up F 2 (cpN 4903 (F 1) (F 2))) := rV R (by omega) _
    rw [r_a R, r_im R, s_copy R (Or.inl ⟨rfl, rfl⟩), fcall_some, r_a R2, r_al R2 (by omega) (by omega), g 1 (by omega)]
    rfl
  · rw [g 1 (by omega)]
    exact Rel_fr Rl (fun i a b => fr i (by omega))
  · rw [g2]
    exact Rel_a R3 e
  · rw [g 1 (by omega)] at ht
    rw [fr 4 (by omega), g 3 (by omega)]
    exact T1 t ht
  · rw [g2, e 2 (by omega), g 1 (by omega)]
    exact Int.le_refl _
  · rw [g2, e 2 (by omega), fr 4 (by omega)]
    refine ⟨fun ht => sl t (by omega), fun t4 => ⟨((T3 t).2 t4).1, ?_⟩⟩
    rw [show C3 205 t = C 4 t from sl t t4]
    exact ((T3 t).2 t4).1
  · rw [fr 404 (by omega), g 4 (by omega)]; exact p1
  · rw [fr 403 (by omega), g 0 (by omega)]; exact p2
  · rw [g 0 (by omega), g 4 (by omega)]; exact p3
  · rw [fr 408 (by omega), g 0 (by omega)]; exact f1
  · rw [fr 408 (by omega), g 0 (by omega)]; exact f2
  · rw [g 0 (by omega)]; exact wr)
theorem g_back : Good x (f_X11_back (x : Int)) (f_X12_back ((x + 426 : Nat) : Int)) := Good_z (fun Z C F h => by
  have I := CI_g (y := x + 426) (N := 12) (F := F) h.1.1
  have hI := h
  obtain ⟨⟨I0, RZ, hZ⟩, Rl, Ri, ⟨V, Rw, T1, T2, T3⟩, ⟨p1, p2, p3⟩, ⟨f1, f2⟩, wr⟩ := h
  have W := (Rel_h Ri).2.2
  have w2 := W.1.2.2.1
  obtain ⟨C1, C2, C3, e1, I1, e2, I2, e3, I3, R3, fr, sl⟩ := c_copy3 I (Or.inr ⟨rfl, rfl, rfl, rfl, rfl, rfl⟩) Ri (fun k hk => NSc_h ((T3 k).2 hk).2)
  have c14 : C3 14 7 = F 2 7 := (Rel_h R3).1.1.1
  have g : ∀ i, i ≠ 1 → va_up F 1 (cpN 4903 (F 2) (F 1)) i = F i := fun i hi => va_up_ne _ _ hi
  have g2 : va_up F 1 (cpN 4903 (F 2) (F 1)) 1 = cpN 4903 (F 2) (F 1) := va_up_self _ _ _
  have e : ∀ k, k < 4903 → cpN 4903 (F 2) (F 1) k = F 2 k := fun k hk => if_pos hk
  refine ⟨F 2 7, C3, va_up F 1 (cpN 4903 (F 2) (F 1)), ?_, fun S2 hS => ?_, ⟨⟨I3, rV RZ (by omega) _, hZ⟩, ?_, ?_, ⟨V, Rw, fun t ht => ?_, ?_, fun t => ?_⟩, ⟨?_, ?_, ?_⟩, ⟨?_, ?_⟩, ?_⟩⟩
  · unfold f_X11_back
    rw [cr0_0 I, cr0_3 I, cv_t I (Or.inl rfl), e1, fcall_some, cr0_1 I1, cr0_4 I1, cv_h I1 iH14, e2, fcall_some, cr0_2 I2, cr0_5 I2, cv_s I2 (Or.inl rfl), e3, fcall_some, cr0_1 I3, cg_h I3 iH14, c14]
  · have R := RI_k RZ hS
    unfold f_X12_back
    have R2 : RI (x + 426) S2 (va_up F 1 (cpN 4903 (F 2) (F 1))) := rV R (by omega) _
    rw [r_im R, r_a R, s_copy R (Or.inr ⟨rfl, rfl⟩), fcall_some, r_a R2, r_al R2 (by omega) (by omega), g2, e _ (by omega)]
    rfl
  · rw [g2]
    exact Rel_a R3 e
  · rw [g 2 (by omega)]
    exact Rel_im Ri (fun i a b => fr i (by omega))
  · rw [g2, e 2 (by omega)] at ht
    rw [show C3 4 t = C 205 t from sl t (by omega), (T3 t).1 ht, g 3 (by omega)]
    exact T1 t (by omega)
  · rw [g2, e 2 (by omega), g 2 (by omega)]
    exact Int.le_refl _
  · rw [g 2 (by omega), fr 205 (by omega)]
    refine ⟨fun ht => (sl t (by omega)).symm, fun t4 => ⟨?_, ((T3 t).2 t4).2⟩⟩
    rw [show C3 4 t = C 205 t from sl t t4]
    exact ((T3 t).2 t4).2
  · rw [fr 404 (by omega), g 4 (by omega)]; exact p1
  · rw [fr 403 (by omega), g 0 (by omega)]; exact p2
  · rw [g 0 (by omega), g 4 (by omega)]; exact p3
  · rw [fr 408 (by omega), g 0 (by omega)]; exact f1
  · rw [fr 408 (by omega), g 0 (by omega)]; exact f2
  · rw [g 0 (by omega)]; exact wr)
end IM
