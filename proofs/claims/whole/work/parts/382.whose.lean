-- ofBidder, whose
section WH
variable {x : Nat}
def smw (a : Nat → Int) (b : Nat) : Nat → Int
  | 0 => 0
  | n + 1 => smw a b n + (if a (12 + 5 * n) = 3 + (b : Int) then a (72 + 14 * b + n) else 0)
theorem smw_b {a : Nat → Int} {b : Nat} : ∀ n, (∀ l, l < n → 0 ≤ a (72 + 14 * b + l) ∧ a (72 + 14 * b + l) ≤ 99) → 0 ≤ smw a b n ∧ smw a b n ≤ 99 * (n : Int)
  | 0, _ => by unfold smw; omega
  | n + 1, h => by
    have h1 := smw_b (a := a) (b := b) n (fun i hi => h i (by omega))
    have h2 := h n (by omega)
    unfold smw
    split <;> omega
theorem mk_no (p : Nat → Bool) {n : Nat} (h : n < 31) (hp : p n = false) : mk p (n + 1) = mk p n := by
  have h1 := mk_step p h 0 (by rw [hp]; rfl)
  have h2 : ior32 ((mk p n : Nat) : Int) 0 = ((mk p n : Nat) : Int) := by
    have := ior_n (a := mk p n) (b := 0) (mk_31 p (by omega)) (by omega)
    rw [Nat.or_zero] at this
    exact this
  rw [h2] at h1
  exact Int.ofNat.inj h1.symm
theorem mk_yes (p : Nat → Bool) {n : Nat} (h : n < 31) (hp : p n = true) : ior32 ((mk p n : Nat) : Int) (ishl32 1 (n : Int)) = ((mk p (n + 1) : Nat) : Int) := by
  rw [ishl_n h]
  exact mk_step p h _ (by rw [hp]; rfl)
theorem g_ofBidder (b w : Int) : Good x (f_X11_ofBidder (x : Int) b w) (f_X12_ofBidder ((x + 426 : Nat) : Int) b w) := Good_q (fun Z C F V h H => by
  have I := H.1
  have T := h.2.1.1
  have t0 := T.1
  have W := H.2.2.2.1
  have w0 := W.1.1
  have w1 := W.1.2.1
  have HL := H.2.2.1.2.1
  have HB := H.2.2.1.2.2.1
  by_cases hn : (0 ≤ b ∧ b < F 1 1) ∧ 0 ≤ w ∧ w ≤ 2
  · obtain ⟨⟨hb, hw⟩⟩ : Nonempty ((0 ≤ b ∧ b < F 1 1) ∧ 0 ≤ w ∧ w ≤ 2) := ⟨hn⟩
    obtain ⟨q, rfl⟩ : ∃ q : Nat, b = (q : Int) := ⟨b.toNat, by omega⟩
    obtain ⟨N, hN⟩ : ∃ N : Nat, F 1 0 = (N : Int) := ⟨(F 1 0).toNat, by omega⟩
    have q5 : q < 5 := by omega
    obtain ⟨p, hp⟩ : ∃ p : Nat → Bool, p = fun l => decide (F 1 (12 + 5 * l) = 3 + (q : Int)) := ⟨_, rfl⟩
    have pe : ∀ l, p l = decide (F 1 (12 + 5 * l) = 3 + (q : Int)) := fun l => by rw [hp]
    have hm : hasL (F 1) (q : Int) = mk p N := by
      unfold hasL
      rw [hN, toNat_z, hp]
    have wb := (W.2.2 q hb.2).2
    have sb : ∀ n, n ≤ N → 0 ≤ smw (F 1) q n ∧ smw (F 1) q n ≤ 99 * (n : Int) := fun n hn => smw_b n (fun l hl => wb l (by omega))
    have ss : ∀ i, smw (F 1) q (i + 1) = smw (F 1) q i + (if F 1 (12 + 5 * i) = 3 + (q : Int) then F 1 (72 + 14 * q + i) else 0) := fun i => rfl
    refine ⟨if w = 0 then F 1 (71 + 14 * q) else if w = 1 then ((mk p N : Nat) : Int) else smw (F 1) q N, ?_, fun S2 hS R2 => ?_⟩
    · unfold f_X11_ofBidder
      rw [cr0_0 I, cv_1 I, c_hasBidder I T W.1, fcall_some, if_b01, if_pos hb, s_within, fcall_some, if_b01, if_pos hw]
      by_cases h0 : w = 0
      · rw [if_pos h0, if_pos h0, cr0_1 I, crh_2 I iH14, alh_3 I iH14 (by omega) (by omega), toNat_z, (HB q hb.2).1]
      · rw [if_neg h0, if_neg h0]
        unfold f_X11_ofBidder_b45
        refine lp (fun (r : Int → Int → Int → Int → Int → Int → fK) i => r (x : Int) (q : Int) w ((mk p i : Nat) : Int) (smw (F 1) q i) (i : Int) (cS x (gS (x + 426) 12 Z F) C)) (N := N) ?_ ?_ jN 0 (by omega) (by unfold jN; omega)
        · intro r i hi hr
          show f_X11_ofBidder_b45B r _ _ _ _ _ _ _ = _
          unfold f_X11_ofBidder_b45B f_X11_ofBidder_b99
          have s1 := sb i (by omega)
          have s2 := wb i (by omega)
          rw [cr0_0 I, cg_1 I, t0, hN, if_neg (by omega), cr0_1 I, crh_0 I iH14, alh_1 I iH14 (by omega) (by omega), toNat_z, (HL i (by omega)).1, w32_of (z := 3 + (q : Int)) (by omega) (by omega)]
          simp only [flet_eq]
          rw [w32_of (z := (i : Int) + 1) (by omega) (by omega), zs]
          rw [ss] at hr
          by_cases hc : F 1 (12 + 5 * i) = 3 + (q : Int)
          · rw [if_pos hc, cr0_1 I, crh_3 I iH14, c_wantAt q i q5 (by omega), fcall_some, alh_4 I iH14 (by omega) (by omega), toNat_z, (HB q hb.2).2 i (by omega), w32_of (by omega) (by omega), mk_yes p (by omega) (by rw [pe]; exact decide_eq_true hc)]
            rw [if_pos hc] at hr
            exact hr
          · rw [if_neg hc, ← mk_no p (n := i) (by omega) (by rw [pe]; exact decide_eq_false hc)]
            rw [if_neg hc, Int.add_zero] at hr
            exact hr
        · intro r
          show f_X11_ofBidder_b45B r _ _ _ _ _ _ _ = _
          unfold f_X11_ofBidder_b45B f_X11_ofBidder_b116
          rw [cr0_0 I, cg_1 I, t0, hN, if_pos (by omega)]
          by_cases h1 : w = 1
          · rw [if_pos h1, if_pos h1]
          · rw [if_neg h1, if_neg h1]
    · have R := R2.1
      unfold f_X12_ofBidder
      rw [r_cv R, s_isBidder R w1, fcall_some, if_b01, if_pos hb, s_isIn, fcall_some, if_b01, if_pos hw]
      unfold f_X12_ofBidder_b25
      refine lp (fun (r : Int → Int → Int → Int → Int → fK) i => r ((x + 426 : Nat) : Int) (q : Int) w (smw (F 1) q i) (i : Int) (rS (x + 426) S2 F)) (N := N) ?_ ?_ jN 0 (by omega) (by unfold jN; omega)
      · intro r i hi hr
        show f_X12_ofBidder_b25B r _ _ _ _ _ _ = _
        unfold f_X12_ofBidder_b25B f_X12_ofBidder_b63
        have s1 := sb i (by omega)
        have s2 := wb i (by omega)
        have m31 := mk_31 p (n := N) (by omega)
        rw [r_a R, r_al R (by omega) (by omega), show (0 : Int).toNat = 0 from rfl, hN, if_neg (by omega), r_cv R, s_hasLots R w0 (by omega), hm, fcall_some, s_has m31 (by omega), fcall_some, if_b01, mk_bit, decide_eq_true hi, Bool.true_and, pe]
        simp only [flet_eq]
        rw [w32_of (z := (i : Int) + 1) (by omega) (by omega), zs]
        rw [ss] at hr
        by_cases hc : F 1 (12 + 5 * i) = 3 + (q : Int)
        · rw [if_pos (decide_eq_true hc), r_cv R, w32_of (z := 1 + (i : Int)) (by omega) (by omega), s_own R (by omega) (by omega) (by omega) (by omega), fcall_some, toNat_z, show 71 + 14 * q + (1 + (i : Int)).toNat = 72 + 14 * q + i by omega, w32_of (by omega) (by omega)]
          rw [if_pos hc] at hr
          exact hr
        · rw [if_neg (fun z => hc (of_decide_eq_true z)), w32_of (by omega) (by omega)]
          rw [if_neg hc] at hr
          exact hr
      · intro r
        show f_X12_ofBidder_b25B r _ _ _ _ _ _ = _
        unfold f_X12_ofBidder_b25B f_X12_ofBidder_b98
        rw [r_a R, r_al R (by omega) (by omega), show (0 : Int).toNat = 0 from rfl, hN, if_pos (by omega)]
        by_cases h0 : w = 0
        · rw [if_pos h0, if_pos h0, r_cv R, s_own R (by omega) (by omega) (by omega) (by omega), fcall_some, toNat_z, show (0 : Int).toNat = 0 from rfl, Nat.add_zero]
        · rw [if_neg h0, if_neg h0]
          by_cases h1 : w = 1
          · rw [if_pos h1, if_pos h1, r_cv R, s_hasLots R w0 (by omega), hm, fcall_some]
          · rw [if_neg h1, if_neg h1]
  · refine ⟨-2, ?_, fun S2 hS R2 => ?_⟩
    · unfold f_X11_ofBidder f_X11_ofBidder_b20
      rw [cr0_0 I, cv_1 I, c_hasBidder I T W.1, fcall_some, if_b01]
      by_cases h1 : 0 ≤ b ∧ b < F 1 1
      · rw [if_pos h1, s_within, fcall_some, if_b01, if_neg (fun z => hn ⟨h1, z⟩)]
      · rw [if_neg h1]
    · unfold f_X12_ofBidder f_X12_ofBidder_b17
      rw [r_cv R2.1, s_isBidder R2.1 w1, fcall_some, if_b01]
      by_cases h1 : 0 ≤ b ∧ b < F 1 1
      · rw [if_pos h1, s_isIn, fcall_some, if_b01, if_neg (fun z => hn ⟨h1, z⟩)]
      · rw [if_neg h1])
def alls (q : Nat → Bool) : Nat → Bool
  | 0 => true
  | n + 1 => alls q n && q n
theorem alls_f {q : Nat → Bool} {n : Nat} (h : alls q n = false) : ∀ k, alls q (n + k) = false
  | 0 => h
  | k + 1 => by
    show (alls q (n + k) && q (n + k)) = false
    rw [alls_f h k]
    rfl
theorem g_whose : Good x (f_X11_whose (x : Int)) (f_X12_whose ((x + 426 : Nat) : Int)) := Good_p (fun Z C F V h H => by
  have T := h.2.1.1
  obtain ⟨⟨_, u2⟩, _, u4, _, _⟩ := h.2.1.2.1
  obtain ⟨⟨_, v2⟩, _, v4, _, _⟩ := h.2.1.2.2.1
  have W := H.2.2.2.1
  have w2 := W.1.2.2.1
  obtain ⟨N, hN⟩ : ∃ N : Nat, F 1 2 = (N : Int) := ⟨(F 1 2).toNat, by omega⟩
  obtain ⟨M, hM⟩ : ∃ M : Nat, F 1 6 = (M : Int) := ⟨(F 1 6).toNat, by omega⟩
  obtain ⟨q, hq⟩ : ∃ q : Nat → Nat → Bool, q = fun (t : Nat) (k : Nat) => decide (wrmv (F 1) V (t : Int) (F 1 (177 + 2 * k)).toNat = F 1 (178 + 2 * k)) := ⟨_, rfl⟩
  have qe : ∀ t k, q t k = decide (wrmv (F 1) V (t : Int) (F 1 (177 + 2 * k)).toNat = F 1 (178 + 2 * k)) := fun t k => by rw [hq]
  clear hq
  have al : ∀ (t k : Nat), alls (q t) (k + 1) = (alls (q t) k && q t k) := fun t k => rfl
  have sa : ∀ c, HR true x (gS (x + 426) 12 Z F) V (F 1) c 14 → (∀ i, i ≠ 413 → i ≠ 415 → i ≠ 416 → c i = C i) → ∀ t : Nat, t < N → ∃ C', f_X11_saysAll (x : Int) (if 0 ≤ (t : Int) ∧ (t : Int) < F 1 2 then c 4 ((t : Int)).toNat else -1) (cS x (gS (x + 426) 12 Z F) c) = some (b01 (alls (q t) M = true), cS x (gS (x + 426) 12 Z F) C') ∧ HR true x (gS (x + 426) 12 Z F) V (F 1) C' 14 ∧ ∀ i, i ≠ 413 → i ≠ 415 → i ≠ 416 → C' i = C i := by
    intro c Hc fc t ht
    obtain ⟨sv, hsv⟩ : ∃ sv, sv = if 0 ≤ (t : Int) ∧ (t : Int) < F 1 2 then c 4 ((t : Int)).toNat else -1 := ⟨_, rfl⟩
    rw [← hsv]
    unfold f_X11_saysAll f_X11_saysAll_b2
    refine lpe (fun (r : Int → Int → Int → fK) i (c' : Nat → Nat → Int) => r (x : Int) sv (i : Int) (cS x (gS (x + 426) 12 Z F) c')) (fun i c' => (HR true x (gS (x + 426) 12 Z F) V (F 1) c' 14 ∧ ∀ i, i ≠ 413 → i ≠ 415 → i ≠ 416 → c' i = C i) ∧ alls (q t) i = true) (fun r => ∃ C', r = some (b01 (alls (q t) M = true), cS x (gS (x + 426) 12 Z F) C') ∧ HR true x (gS (x + 426) 12 Z F) V (F 1) C' 14 ∧ ∀ i, i ≠ 413 → i ≠ 415 → i ≠ 416 → C' i = C i) (N := M) ?_ ?_ jN 0 c (by omega) (by unfold jN; omega) ⟨⟨Hc, fc⟩, rfl⟩
    · intro r i c' hi hinv ih
      obtain ⟨⟨H', f'⟩, ha⟩ := hinv
      have I := H'.1
      show ∃ C', f_X11_saysAll_b2B r _ _ _ _ = _ ∧ _
      unfold f_X11_saysAll_b2B
      obtain ⟨l1, l2⟩ := v4 i (by omega)
      obtain ⟨d1, d2⟩ := u4 i (by omega)
      have x8 : c' 8 i = (((F 1 (177 + 2 * i)).toNat : Nat) : Int) := by rw [f' 8 (by omega) (by omega) (by omega)]; rw [show C 8 i = F 1 (177 + 2 * i) from d1]; omega
      have x9 : ∀ c1 : Nat → Nat → Int, (∀ j, j ≠ 415 → j ≠ 416 → c1 j = c' j) → c1 9 i = F 1 (178 + 2 * i) := fun c1 h1 => by rw [h1 9 (by omega) (by omega), f' 9 (by omega) (by omega) (by omega)]; exact d2
      have e4 : c 4 = c' 4 := by rw [fc 4 (by omega) (by omega) (by omega), f' 4 (by omega) (by omega) (by omega)]
      obtain ⟨C1, v, I1, f1⟩ := c_warmsBy iH14 H' (l := (F 1 (177 + 2 * i)).toNat) (by omega) (t := (t : Int)) (by omega)
      rw [← e4, ← hsv] at v
      rw [cr0_0 I, cg_1 I, f' 1 (by omega) (by omega) (by omega), u2, hM, if_neg (by omega), cr0_8 I, cr0_1 I, cr0_0 I, cr1_12 I, al_8 I (by omega) (by omega), toNat_z i, x8, cv_413 I, v, fcall_some, cr0_0 I1, cr1_13 I1, al_9 I1 (by omega) (by omega), toNat_z i, x9 C1 f1]
      have H1 : HR true x (gS (x + 426) 12 Z F) V (F 1) C1 14 := HR_fr iH14 H' I1 (fun j a b d => f1 j b d)
      have fC : ∀ j, j ≠ 413 → j ≠ 415 → j ≠ 416 → C1 j = C j := fun j a b d => by rw [f1 j b d, f' j a b d]
      by_cases hc : wrmv (F 1) V (t : Int) (F 1 (177 + 2 * i)).toNat = F 1 (178 + 2 * i)
      · rw [if_pos hc, flet_eq, w32_of (by omega) (by omega), zs]
        have := ih C1 ⟨⟨H1, fC⟩, by rw [al, ha, qe, decide_eq_true hc]; rfl⟩
        exact this
      · rw [if_neg hc]
        have hf : alls (q t) (i + 1) = false := by rw [al, ha, qe, decide_eq_false hc]; rfl
        have hg := alls_f hf (M - (i + 1))
        rw [show i + 1 + (M - (i + 1)) = M by omega] at hg
        refine ⟨C1, ?_, H1, fC⟩
        unfold b01
        rw [hg, if_neg (by decide)]
    · intro r c' hinv
      obtain ⟨⟨H', f'⟩, ha⟩ := hinv
      have I := H'.1
      show ∃ C', f_X11_saysAll_b2B r _ _ _ _ = _ ∧ _
      unfold f_X11_saysAll_b2B
      rw [cr0_0 I, cg_1 I, f' 1 (by omega) (by omega) (by omega), u2, hM, if_pos (by omega)]
      refine ⟨c', ?_, H', f'⟩
      unfold b01
      rw [ha, if_pos rfl]
  obtain ⟨p, hp⟩ : ∃ p : Nat → Bool, p = fun t => alls (q t) M := ⟨_, rfl⟩
  have pe : ∀ t, p t = alls (q t) M := fun t => by rw [hp]
  have cl : ∃ C', f_X11_whose (x : Int) (cS x (gS (x + 426) 12 Z F) C) = some (((mk p N : Nat) : Int), cS x (gS (x + 426) 12 Z F) C') ∧ CI x (gS (x + 426) 12 Z F) C' ∧ ∀ i, i ≠ 413 → i ≠ 415 → i ≠ 416 → C' i = C i := by
    unfold f_X11_whose f_X11_whose_b4
    refine lpe (fun (r : Int → Int → Int → fK) i (c : Nat → Nat → Int) => r (x : Int) ((mk p i : Nat) : Int) (i : Int) (cS x (gS (x + 426) 12 Z F) c)) (fun i c => HR true x (gS (x + 426) 12 Z F) V (F 1) c 14 ∧ ∀ i, i ≠ 413 → i ≠ 415 → i ≠ 416 → c i = C i) (fun r => ∃ C', r = some (((mk p N : Nat) : Int), cS x (gS (x + 426) 12 Z F) C') ∧ CI x (gS (x + 426) 12 Z F) C' ∧ ∀ i, i ≠ 413 → i ≠ 415 → i ≠ 416 → C' i = C i) (N := N) ?_ ?_ jN 0 C (by omega) (by unfold jN; omega) ⟨H, fun _ _ _ _ => rfl⟩
    · intro r i c hi hinv ih
      obtain ⟨Hc, fc⟩ := hinv
      have I := Hc.1
      show ∃ C', f_X11_whose_b4B r _ _ _ _ = _ ∧ _
      unfold f_X11_whose_b4B f_X11_whose_b36
      obtain ⟨C', v, H', f'⟩ := sa c Hc fc i hi
      rw [cr0_0 I, cg_1 I, fc 1 (by omega) (by omega) (by omega), T.2.2.1, hN, if_neg (by omega), cr0_0 I, cv_1 I, c_scriptOf I Hc.2.1 W.1, fcall_some, cv_0 I, v, fcall_some, if_b01]
      simp only [flet_eq]
      rw [w32_of (z := (i : Int) + 1) (by omega) (by omega), zs]
      have ih' := ih C' ⟨H', f'⟩
      by_cases hc : alls (q i) M = true
      · rw [if_pos hc, mk_yes p (by omega) (by rw [pe]; exact hc)]
        exact ih'
      · rw [if_neg hc, ← mk_no p (n := i) (by omega) (by rw [pe]; exact Bool.eq_false_iff.mpr hc)]
        exact ih'
    · intro r c hinv
      obtain ⟨Hc, fc⟩ := hinv
      have I := Hc.1
      show ∃ C', f_X11_whose_b4B r _ _ _ _ = _ ∧ _
      unfold f_X11_whose_b4B
      rw [cr0_0 I, cg_1 I, fc 1 (by omega) (by omega) (by omega), T.2.2.1, hN, if_pos (by omega)]
      exact ⟨c, rfl, I, fc⟩
  obtain ⟨C', e, I', f'⟩ := cl
  refine ⟨_, C', e, I', fun i a b => f' i (by omega) (by omega) (by omega), fun S2 hS R2 => ?_⟩
  unfold f_X12_whose f_X12_whose_b4
  refine lpe (fun (r : Int → Int → Int → fK) i (c : Nat → Nat → Int) => r ((x + 426 : Nat) : Int) ((mk p i : Nat) : Int) (i : Int) (rS (x + 426) S2 c)) (fun i c => RR (x + 426) S2 V c ∧ ∀ i, i ≠ 6 → i ≠ 7 → i ≠ 8 → c i = F i) (fun r => ∃ F', r = some (((mk p N : Nat) : Int), rS (x + 426) S2 F') ∧ RI (x + 426) S2 F' ∧ ∀ i, i ≠ 6 → i ≠ 7 → i ≠ 8 → F' i = F i) (N := N) ?_ ?_ jN 0 F (by omega) (by unfold jN; omega) ⟨R2, fun _ _ _ _ => rfl⟩
  · intro r t c ht hinv ih
    obtain ⟨Rc, fc⟩ := hinv
    have R := Rc.1
    have e1 := fc 1 (by omega) (by omega) (by omega)
    show ∃ F', f_X12_whose_b4B r _ _ _ _ = _ ∧ _
    unfold f_X12_whose_b4B
    rw [r_a R, r_al R (by omega) (by omega), show (2 : Int).toNat = 2 from rfl, e1, hN, if_neg (by omega)]
    unfold f_X12_whose_b19
    refine lpe (fun (r2 : Int → Int → Int → Int → Int → fK) k (c' : Nat → Nat → Int) => r2 ((x + 426 : Nat) : Int) ((mk p t : Nat) : Int) (t : Int) (b01 (alls (q t) k = true)) (k : Int) (rS (x + 426) S2 c')) (fun k c' => RR (x + 426) S2 V c' ∧ ∀ i, i ≠ 6 → i ≠ 7 → i ≠ 8 → c' i = F i) (fun r => ∃ F', r = some (((mk p N : Nat) : Int), rS (x + 426) S2 F') ∧ RI (x + 426) S2 F' ∧ ∀ i, i ≠ 6 → i ≠ 7 → i ≠ 8 → F' i = F i) (N := M) ?_ ?_ jN 0 c (by omega) (by unfold jN; omega) ⟨Rc, fc⟩
    · intro r2 k c' hk hinv ih2
      obtain ⟨R', f2⟩ := hinv
      have Q := R'.1
      have e2 := f2 1 (by omega) (by omega) (by omega)
      show ∃ F', f_X12_whose_b19B r r2 _ _ _ _ _ _ = _ ∧ _
      unfold f_X12_whose_b19B f_X12_whose_b75 f_X12_whose_b76
      obtain ⟨l1, l2⟩ := v4 k (by omega)
      rw [r_a Q, r_al Q (by omega) (by omega), show (6 : Int).toNat = 6 from rfl, e2, hM, if_neg (by omega), if_b01]
      simp only [flet_eq]
      rw [w32_of (z := (k : Int) + 1) (by omega) (by omega), zs]
      by_cases ha : alls (q t) k = true
      · rw [if_pos ha, w32_of (z := 2 * (k : Int)) (by omega) (by omega), w32_of (z := 177 + 2 * (k : Int)) (by omega) (by omega), w32_of (z := 177 + 2 * (k : Int) + 1) (by omega) (by omega), r_a Q, r_al Q (by omega) (by omega), e2, show (177 + 2 * (k : Int)).toNat = 177 + 2 * k by omega, r_cv Q]
        obtain ⟨F', g1, g2, g3⟩ := s_warmsOf R' (l := (F 1 (177 + 2 * k)).toNat) (by rw [e2]; omega) (t := (t : Int)) (by rw [e2]; omega)
        rw [show (((F 1 (177 + 2 * k)).toNat : Nat) : Int) = F 1 (177 + 2 * k) by omega, e2] at g1
        have Q' : RI (x + 426) S2 F' := g2
        rw [g1, fcall_some, r_a Q', r_al Q' (by omega) (by omega), g3 1 (by omega) (by omega) (by omega), e2, show (177 + 2 * (k : Int) + 1).toNat = 178 + 2 * k by omega]
        have ih' := ih2 F' ⟨RR_k R' g2 g3, fun j a b d => (g3 j a b d).trans (f2 j a b d)⟩
        rw [al, ha, Bool.true_and, qe] at ih'
        by_cases hc : wrmv (F 1) V (t : Int) (F 1 (177 + 2 * k)).toNat = F 1 (178 + 2 * k)
        · rw [if_pos hc]
          rw [decide_eq_true hc] at ih'
          exact ih'
        · rw [if_neg hc]
          rw [decide_eq_false hc] at ih'
          exact ih'
      · rw [if_neg ha]
        have ih' := ih2 c' ⟨R', f2⟩
        rw [al, Bool.eq_false_iff.mpr ha, Bool.false_and] at ih'
        exact ih'
    · intro r2 c' hinv
      obtain ⟨R', f2⟩ := hinv
      have Q := R'.1
      have e2 := f2 1 (by omega) (by omega) (by omega)
      show ∃ F', f_X12_whose_b19B r r2 _ _ _ _ _ _ = _ ∧ _
      unfold f_X12_whose_b19B f_X12_whose_b95
      rw [r_a Q, r_al Q (by omega) (by omega), show (6 : Int).toNat = 6 from rfl, e2, hM, if_pos (by omega), if_b01]
      simp only [flet_eq]
      rw [w32_of (z := (t : Int) + 1) (by omega) (by omega), zs]
      have ih' := ih c' ⟨R', f2⟩
      by_cases ha : alls (q t) M = true
      · rw [if_pos ha, mk_yes p (by omega) (by rw [pe]; exact ha)]
        exact ih'
      · rw [if_neg ha, mk_step p (n := t) (by omega) 0 (by rw [pe, Bool.eq_false_iff.mpr ha]; rfl)]
        exact ih'
  · intro r c hinv
    obtain ⟨Rc, fc⟩ := hinv
    have R := Rc.1
    show ∃ F', f_X12_whose_b4B r _ _ _ _ = _ ∧ _
    unfold f_X12_whose_b4B
    rw [r_a R, r_al R (by omega) (by omega), show (2 : Int).toNat = 2 from rfl, fc 1 (by omega) (by omega) (by omega), hN, if_pos (by omega)]
    exact ⟨c, rfl, R, fc⟩)
end WH
