-- the calls that only ask
section QR
variable {x : Nat}
/-- a call that changes nothing but the scratch of the two -/
theorem Good_p {fc fr : jSt → Option (Int × jSt)} (hc : ∀ Z C F V, INV x Z C F → HR true x (gS (x + 426) 12 Z F) V (F 1) C 14 → ∃ v C', fc (cS x (gS (x + 426) 12 Z F) C) = some (v, cS x (gS (x + 426) 12 Z F) C') ∧ CI x (gS (x + 426) 12 Z F) C' ∧ (∀ i, i ≠ 0 → i < 413 → C' i = C i) ∧ ∀ S2, S2.2.2.1 = Z.2.2.1 → RR (x + 426) S2 V F → ∃ F', fr (rS (x + 426) S2 F) = some (v, rS (x + 426) S2 F') ∧ RI (x + 426) S2 F' ∧ (∀ i, i ≠ 6 → i ≠ 7 → i ≠ 8 → F' i = F i)) : Good x fc fr := Good_k (fun Z C F V R h T => by
  have I := CI_g (y := x + 426) (N := 12) (F := F) h.1.1
  obtain ⟨v, C', h1, h2, h3, h4⟩ := hc Z C F V h (Rel_HR I h.2.1 (TXT_C T))
  refine ⟨v, C', F 1, h1, h2, Rel_fr h.2.1 (fun i a b => h3 i (by omega) (by omega)), ⟨h3 4 (by omega) (by omega), fun i a b => h3 i (by omega) (by omega)⟩, rfl, fun S2 hS R2 => ?_⟩
  obtain ⟨F', q1, q2, q3⟩ := h4 S2 hS R2
  exact ⟨F', q1, RK_q q2 q3⟩)
theorem Good_q {fc fr : jSt → Option (Int × jSt)} (hc : ∀ Z C F V, INV x Z C F → HR true x (gS (x + 426) 12 Z F) V (F 1) C 14 → ∃ v, fc (cS x (gS (x + 426) 12 Z F) C) = some (v, cS x (gS (x + 426) 12 Z F) C) ∧ ∀ S2, S2.2.2.1 = Z.2.2.1 → RR (x + 426) S2 V F → fr (rS (x + 426) S2 F) = some (v, rS (x + 426) S2 F)) : Good x fc fr := Good_p (fun Z C F V h H => by
  obtain ⟨v, h1, h2⟩ := hc Z C F V h H
  exact ⟨v, C, h1, H.1, fun _ _ _ => rfl, fun S2 hS R2 => ⟨F, h2 S2 hS R2, R2.1, fun _ _ _ _ => rfl⟩⟩)
theorem iH14 : isH 14 := Or.inl rfl
theorem g_about (n : Int) : Good x (f_X11_about (x : Int) n) (f_X12_about ((x + 426 : Nat) : Int) n) := Good_q (fun Z C F V h H => by
  have I := H.1
  have Rl := h.2.1
  obtain ⟨t0, t1, t2, t3, _⟩ := Rl.1
  obtain ⟨⟨u0, u1⟩, _⟩ := Rl.2.1
  have s2 := Rl.2.2.2.1.1.1
  have p2 := h.2.2.2.2.1.2.1
  by_cases hn : 0 ≤ n ∧ n ≤ 6
  · refine ⟨F 1 n.toNat, ?_, fun S2 hS R2 => ?_⟩
    · unfold f_X11_about
      by_cases h0 : n = 0
      · subst h0; rw [if_pos rfl, cr0_0 I, cg_1 I, t0]; rfl
      rw [if_neg h0]
      by_cases h0 : n = 1
      · subst h0; rw [if_pos rfl, cr0_0 I, cg_1 I, t1]; rfl
      rw [if_neg h0]
      by_cases h0 : n = 2
      · subst h0; rw [if_pos rfl, cr0_0 I, cg_1 I, t2]; rfl
      rw [if_neg h0]
      by_cases h0 : n = 3
      · subst h0; rw [if_pos rfl, cr0_0 I, cg_1 I, t3]; rfl
      rw [if_neg h0]
      by_cases h0 : n = 4
      · subst h0; rw [if_pos rfl, cr0_2 I, cg_20 I, s2]; rfl
      rw [if_neg h0]
      by_cases h0 : n = 5
      · subst h0; rw [if_pos rfl, cr0_0 I, cg_1 I, u0]; rfl
      rw [if_neg h0]
      have h0 : n = 6 := by omega
      subst h0; rw [if_pos rfl, cr0_0 I, cg_1 I, u1]; rfl
    · unfold f_X12_about f_X12_about_b34
      rw [s_isIn, fcall_some, if_b01, if_pos hn, r_a R2.1, r_al R2.1 (by omega) (by omega)]
  · by_cases h7 : n = 7
    · subst h7
      refine ⟨F 0 4, ?_, fun S2 hS R2 => ?_⟩
      · unfold f_X11_about
        rw [if_neg (by decide), if_neg (by decide), if_neg (by decide), if_neg (by decide), if_neg (by decide), if_neg (by decide), if_neg (by decide), if_pos rfl, cr0_6 I, cg_403 I, p2]
      · unfold f_X12_about f_X12_about_b34
        rw [s_isIn, fcall_some, if_b01, if_neg hn, if_pos rfl, r_g R2.1]
    · refine ⟨-2, ?_, fun S2 hS R2 => ?_⟩
      · unfold f_X11_about
        rw [if_neg (by omega), if_neg (by omega), if_neg (by omega), if_neg (by omega), if_neg (by omega), if_neg (by omega), if_neg (by omega), if_neg h7]
      · unfold f_X12_about f_X12_about_b34
        rw [s_isIn, fcall_some, if_b01, if_neg hn, if_neg h7])
theorem g_is (n : Int) : Good x (f_X11_is (x : Int) n) (f_X12_is ((x + 426 : Nat) : Int) n) := Good_q (fun Z C F V h H => by
  have I := H.1
  have Rl := h.2.1
  obtain ⟨t0, t1, t2, t3, _⟩ := Rl.1
  have HH := H.2.2.1
  obtain ⟨h7, h8, h9, _⟩ := HH.1
  have W := H.2.2.2.1
  by_cases hn : 0 ≤ n ∧ n ≤ 2
  · refine ⟨F 1 (7 + n).toNat, ?_, fun S2 hS R2 => ?_⟩
    · unfold f_X11_is
      by_cases h0 : n = 0
      · subst h0; rw [if_pos rfl, cr0_1 I, cg_h I iH14, h7]; rfl
      rw [if_neg h0]
      by_cases h0 : n = 1
      · subst h0; rw [if_pos rfl, cr0_1 I, cg_h I iH14, h8]; rfl
      rw [if_neg h0]
      have h0 : n = 2 := by omega
      subst h0; rw [if_pos rfl, cr0_1 I, cg_h I iH14, h9]; rfl
    · unfold f_X12_is f_X12_is_b51
      rw [s_isIn, fcall_some, if_b01, if_pos hn, r_a R2.1, w32_of (by omega) (by omega), r_al R2.1 (by omega) (by omega)]
  · by_cases h3 : n = 3
    · subst h3
      refine ⟨sfl (F 1), ?_, fun S2 hS R2 => ?_⟩
      · unfold f_X11_is
        rw [if_neg (by decide), if_neg (by decide), if_neg (by decide), if_pos rfl, cr0_1 I, cv_h I iH14, c_saleFloor I iH14 HH, fcall_some]
      · unfold f_X12_is f_X12_is_b51
        rw [s_isIn, fcall_some, if_b01, if_neg hn, if_pos rfl, r_cv R2.1, s_saleFloor R2.1, fcall_some]
    · by_cases h4 : n = 4
      · subst h4
        refine ⟨((lotsF (F 1) (sfl (F 1)) : Nat) : Int), ?_, fun S2 hS R2 => ?_⟩
        · unfold f_X11_is
          rw [if_neg (by decide), if_neg (by decide), if_neg (by decide), if_neg (by decide), if_pos rfl, cr0_1 I, cr0_1 I, cv_h I iH14, c_saleFloor I iH14 HH, fcall_some, cr0_0 I, cg_1 I, t0, cv_h I iH14, c_lotsAt I iH14 HH W.1, fcall_some]
        · unfold f_X12_is f_X12_is_b51
          rw [s_isIn, fcall_some, if_b01, if_neg hn, if_neg h3, if_pos rfl, r_cv R2.1, s_saleFloor R2.1, fcall_some, r_cv R2.1, s_lotsAt R2.1 W.1.1, fcall_some]
      · refine ⟨-2, ?_, fun S2 hS R2 => ?_⟩
        · unfold f_X11_is
          rw [if_neg (by omega), if_neg (by omega), if_neg (by omega), if_neg h3, if_neg h4]
        · unfold f_X12_is f_X12_is_b51
          rw [s_isIn, fcall_some, if_b01, if_neg hn, if_neg h3, if_neg h4])
theorem g_left (n : Int) : Good x (f_X11_left (x : Int) n) (f_X12_left ((x + 426 : Nat) : Int) n) := Good_q (fun Z C F V h H => by
  have I := H.1
  have t0 := h.2.1.1.1
  have HH := H.2.2.1
  have W := H.2.2.2.1
  unfold f_X11_left f_X11_left_b28 f_X12_left f_X12_left_b16
  by_cases hn : 0 ≤ n ∧ n ≤ 5
  · refine ⟨((lotsF (F 1) n : Nat) : Int), ?_, fun S2 hS R2 => ?_⟩
    · rw [s_within, fcall_some, if_b01, if_pos hn, cr0_1 I, cr0_0 I, cg_1 I, t0, cv_h I iH14, c_lotsAt I iH14 HH W.1, fcall_some]
    · rw [s_isFloor, fcall_some, if_b01, if_pos hn, r_cv R2.1, s_lotsAt R2.1 W.1.1, fcall_some]
  · refine ⟨-1, ?_, fun S2 hS R2 => ?_⟩
    · rw [s_within, fcall_some, if_b01, if_neg hn]
    · rw [s_isFloor, fcall_some, if_b01, if_neg hn])
theorem g_bids (b l : Int) : Good x (f_X11_bids (x : Int) b l) (f_X12_bids ((x + 426 : Nat) : Int) b l) := Good_p (fun Z C F V h H => by
  have I := H.1
  have T := h.2.1.1
  have W := H.2.2.2.1
  unfold f_X11_bids f_X11_bids_b22 f_X12_bids f_X12_bids_b25 f_X12_bids_b26
  rw [cr0_0 I, cv_1 I, c_hasBidder I T W.1, fcall_some, if_b01]
  by_cases hb : 0 ≤ b ∧ b < F 1 1
  · rw [if_pos hb, cr0_0 I, cv_1 I, c_hasLot I T W.1, fcall_some, if_b01]
    by_cases hl : 0 ≤ l ∧ l < F 1 0
    · rw [if_pos hl, cr0_8 I, cr0_1 I, cv_413 I]
      obtain ⟨bn, rfl⟩ : ∃ k : Nat, b = (k : Int) := ⟨b.toNat, by omega⟩
      obtain ⟨ln, rfl⟩ : ∃ k : Nat, l = (k : Int) := ⟨l.toNat, by omega⟩
      obtain ⟨C', v, I', f'⟩ := c_bidOf iH14 H hb.2 hl.2
      rw [v, fcall_some]
      refine ⟨_, C', rfl, I', fun i a q => f' i (by omega) (by omega), fun S2 hS R2 => ?_⟩
      rw [r_cv R2.1, s_isBidder R2.1 W.1.2.1, fcall_some, if_b01, if_pos hb, r_cv R2.1, s_isLot R2.1 W.1.1, fcall_some, if_b01, if_pos hl, r_cv R2.1]
      obtain ⟨F', g1, g2, g3⟩ := s_bidOf R2 hb.2 hl.2
      rw [g1, fcall_some]
      exact ⟨F', rfl, g2, g3⟩
    · rw [if_neg hl]
      refine ⟨-1, C, rfl, I, fun _ _ _ => rfl, fun S2 hS R2 => ⟨F, ?_, R2.1, fun _ _ _ _ => rfl⟩⟩
      rw [r_cv R2.1, s_isBidder R2.1 W.1.2.1, fcall_some, if_b01, if_pos hb, r_cv R2.1, s_isLot R2.1 W.1.1, fcall_some, if_b01, if_neg hl]
  · rw [if_neg hb]
    refine ⟨-1, C, rfl, I, fun _ _ _ => rfl, fun S2 hS R2 => ⟨F, ?_, R2.1, fun _ _ _ _ => rfl⟩⟩
    rw [r_cv R2.1, s_isBidder R2.1 W.1.2.1, fcall_some, if_b01, if_neg hb])
theorem g_book (i w : Int) : Good x (f_X11_book (x : Int) i w) (f_X12_book ((x + 426 : Nat) : Int) i w) := Good_q (fun Z C F V h H => by
  have I := H.1
  have W := H.2.2.2.1
  have w10 := W.1.2.2.2.2.2.2.2.2
  obtain ⟨b0, b1⟩ := H.2.2.2.2.2 rfl
  unfold f_X11_book f_X11_book_b39 f_X12_book f_X12_book_b109
  by_cases hm : i = -1
  · refine ⟨F 1 10, ?_, fun S2 hS R2 => ?_⟩
    · rw [if_pos hm, cr0_1 I, cg_h I iH14, b0]
    · rw [if_pos hm, r_a R2.1, r_al R2.1 (by omega) (by omega)]; rfl
  rw [if_neg hm, cr0_1 I, cg_h I iH14, b0, w32_of (by omega) (by omega), s_within, fcall_some, if_b01]
  by_cases hi : 0 ≤ i ∧ i ≤ F 1 10 - 1
  · obtain ⟨k, rfl⟩ : ∃ k : Nat, i = (k : Int) := ⟨i.toNat, by omega⟩
    obtain ⟨c0, c1, c2, c3, e1, e2⟩ := b1 k (by omega)
    have k30 : k < 30 := by omega
    rw [if_pos hi, s_within, fcall_some, if_b01]
    have rd : ∀ S2, RR (x + 426) S2 V F → ∀ (K : Int → jSt → Option (Int × jSt)), (fgetr (rS (x + 426) S2 F) ((x + 426 : Nat) : Int) 12 0 fun v1 => fald (rS (x + 426) S2 F) v1 10 1 fun v2 => fcall (f_X12_isIn (k : Int) 0 (w32 (v2 - 1)) (rS (x + 426) S2 F)) fun v3 S4 => if v3 = 0 then some (-2, S4) else fgetr S4 ((x + 426 : Nat) : Int) 12 0 fun v5 => fald S4 v5 (w32 (4843 + w32 (2 * (k : Int)))) 1 fun v6 => K v6 S4) = K (F 1 (4843 + 2 * k)) (rS (x + 426) S2 F) := fun S2 R2 K => by
      rw [r_a R2.1, r_al R2.1 (by omega) (by omega), show (10 : Int).toNat = 10 from rfl, w32_of (by omega) (by omega), s_isIn, fcall_some, if_b01, if_pos hi, r_a R2.1, w32_of (z := 2 * (k : Int)) (by omega) (by omega), w32_of (by omega) (by omega), r_al R2.1 (by omega) (by omega), show (4843 + 2 * (k : Int)).toNat = 4843 + 2 * k by omega]
    by_cases hw : 0 ≤ w ∧ w ≤ 3
    · refine ⟨C (14 + 5) (4 * k + w.toNat), ?_, fun S2 hS R2 => ?_⟩
      · rw [if_pos hw, cr0_1 I, crh_4 I iH14, w32_of (z := (k : Int) * 4) (by omega) (by omega), w32_of (by omega) (by omega), alh_5 I iH14 (by omega) (by omega), show ((k : Int) * 4 + w).toNat = 4 * k + w.toNat by omega]
      · rw [if_neg hm, rd S2 R2, e1]
        by_cases h0 : w = 0
        · subst h0
          rw [if_pos rfl, if_neg (by decide), idiv_n (by omega) (by omega) (by omega) (by omega), show 4 * k + (0 : Int).toNat = 4 * k from rfl]
          congr 2
          omega
        rw [if_neg h0]
        by_cases h0 : w = 1
        · subst h0
          rw [if_pos rfl, if_neg (by decide), if_neg (by decide), idiv_n (by omega) (by omega) (by omega) (by omega), irem_n (by omega) (by omega) (by omega) (by omega), show (1 : Int).toNat = 1 from rfl]
          congr 2
          omega
        rw [if_neg h0]
        by_cases h0 : w = 2
        · subst h0
          rw [if_pos rfl, if_neg (by decide), irem_n (by omega) (by omega) (by omega) (by omega), show (2 : Int).toNat = 2 from rfl]
          congr 2
          omega
        rw [if_neg h0]
        have h0 : w = 3 := by omega
        subst h0
        rw [if_pos rfl, r_a R2.1, w32_of (z := 2 * (k : Int)) (by omega) (by omega), w32_of (z := 4843 + 2 * (k : Int)) (by omega) (by omega), w32_of (by omega) (by omega), r_al R2.1 (by omega) (by omega), show (4843 + 2 * (k : Int) + 1).toNat = 4844 + 2 * k by omega, e2]
        rfl
    · refine ⟨-2, ?_, fun S2 hS R2 => ?_⟩
      · rw [if_neg hw]
      · rw [if_neg hm, rd S2 R2, if_neg (by omega), if_neg (by omega), if_neg (by omega), if_neg (by omega)]
  · refine ⟨-2, ?_, fun S2 hS R2 => ?_⟩
    · rw [if_neg hi]
    · rw [if_neg hm, r_a R2.1, r_al R2.1 (by omega) (by omega), show (10 : Int).toNat = 10 from rfl, w32_of (by omega) (by omega), s_isIn, fcall_some, if_b01, if_neg hi])
theorem RR_k {m : Nat} {S : jSt} {V : LwV} {F F' : Nat → Nat → Int} (h : RR m S V F) (R : RI m S F') (hf : ∀ i, i ≠ 6 → i ≠ 7 → i ≠ 8 → F' i = F i) : RR m S V F' := by
  refine ⟨R, ?_, ?_⟩
  · rw [hf 1 (by omega) (by omega) (by omega)]; exact h.2.1
  · rw [hf 1 (by omega) (by omega) (by omega), hf 3 (by omega) (by omega) (by omega)]; exact h.2.2
theorem g_of (l w : Int) : Good x (f_X11_of (x : Int) l w) (f_X12_of ((x + 426 : Nat) : Int) l w) := Good_p (fun Z C F V h H => by
  have I := H.1
  have T := h.2.1.1
  have HH := H.2.2.1
  have W := H.2.2.2.1
  have t3 := T.2.2.2.1
  have w3 := W.1.2.2.2.1
  by_cases hl : 0 ≤ l ∧ l < F 1 0
  · obtain ⟨k, rfl⟩ : ∃ k : Nat, l = (k : Int) := ⟨l.toNat, by omega⟩
    have w0 := W.1.1
    have k12 : k < 12 := by omega
    obtain ⟨L1, L2⟩ := HH.2.1 k hl.2
    obtain ⟨T1, T2⟩ := T.2.2.2.2 k hl.2
    have cl : f_X11_of (x : Int) (k : Int) w (cS x (gS (x + 426) 12 Z F) C) = if w = 0 then some (F 1 (11 + 5 * k), cS x (gS (x + 426) 12 Z F) C) else if w = 1 then some (F 1 (13 + 5 * k), cS x (gS (x + 426) 12 Z F) C) else if w = 2 then some (F 1 (14 + 5 * k), cS x (gS (x + 426) 12 Z F) C) else if w = 3 then some (F 1 (12 + 5 * k), cS x (gS (x + 426) 12 Z F) C) else if w = 4 then fcall (f_X5_reserveFor ((x + 413 : Nat) : Int) ((x + 14 : Nat) : Int) (k : Int) (cS x (gS (x + 426) 12 Z F) C)) (fun v S => some (v, S)) else if w = 5 then fcall (f_X5_warmsBy ((x + 413 : Nat) : Int) (if 0 ≤ F 1 3 ∧ F 1 3 < F 1 2 then C 4 (F 1 3).toNat else -1) ((x + 14 : Nat) : Int) (k : Int) (cS x (gS (x + 426) 12 Z F) C)) (fun v S => some (v, S)) else if w = 6 then fcall (f_X5_findWinner ((x + 413 : Nat) : Int) ((x + 14 : Nat) : Int) (k : Int) (cS x (gS (x + 426) 12 Z F) C)) (fun v37 S38 => fgetr S38 (x : Int) 11 8 (fun v39 => fget S38 v39 5 0 (fun v40 => some (v40, S38)))) else if w = 7 then fcall (f_X5_findWinner ((x + 413 : Nat) : Int) ((x + 14 : Nat) : Int) (k : Int) (cS x (gS (x + 426) 12 Z F) C)) (fun v37 S38 => fgetr S38 (x : Int) 11 8 (fun v39 => fget S38 v39 5 1 (fun v40 => some (v40, S38)))) else some (-2, cS x (gS (x + 426) 12 Z F) C) := by
      unfold f_X11_of
      rw [cr0_0 I, cv_1 I, c_hasLot I T W.1, fcall_some, if_b01, if_pos hl, cr0_1 I, crh_1 I iH14, alh_2 I iH14 (by omega) (by omega), toNat_z, L2, cr0_0 I, cr1_2 I, al_2 I (by omega) (by omega), toNat_z, T1, cr0_0 I, cr1_3 I, al_3 I (by omega) (by omega), toNat_z, T2, cr0_1 I, crh_0 I iH14, alh_1 I iH14 (by omega) (by omega), toNat_z, L1]
      simp only [cr0_8 I, cr0_1 I, cv_413 I, cr0_0 I, cg_1 I, t3, cv_1 I, c_scriptOf I T W.1, fcall_some]
    have rf : ∀ S2, RR (x + 426) S2 V F → ∃ F1, RR (x + 426) S2 V F1 ∧ (∀ i, i ≠ 6 → i ≠ 7 → i ≠ 8 → F1 i = F i) ∧ f_X12_of ((x + 426 : Nat) : Int) (k : Int) w (rS (x + 426) S2 F) = f_X12_of_b28 ((x + 426 : Nat) : Int) (k : Int) w (wnv (F 1) V k) (rS (x + 426) S2 F1) := fun S2 R2 => by
      unfold f_X12_of wnv
      rw [r_cv R2.1, s_isLot R2.1 W.1.1, fcall_some, if_b01, if_pos hl, r_cv R2.1, s_isInHouse R2.1 W.1.1, fcall_some, if_b01, toNat_z]
      by_cases hh : F 1 (12 + 5 * k) = 0
      · rw [if_pos ⟨hl, hh⟩, if_pos hh, r_cv R2.1]
        obtain ⟨F1, g1, g2, g3⟩ := s_winnerOf R2 hl.2
        rw [g1, fcall_some]
        exact ⟨F1, RR_k R2 g2 g3, g3, rfl⟩
      · rw [if_neg (fun z => hh z.2), if_neg hh]
        exact ⟨F, R2, fun _ _ _ _ => rfl, rfl⟩
    have pl : ∀ (v : Int), f_X11_of (x : Int) (k : Int) w (cS x (gS (x + 426) 12 Z F) C) = some (v, cS x (gS (x + 426) 12 Z F) C) → (∀ S2 F1, RR (x + 426) S2 V F1 → (∀ i, i ≠ 6 → i ≠ 7 → i ≠ 8 → F1 i = F i) → f_X12_of_b28 ((x + 426 : Nat) : Int) (k : Int) w (wnv (F 1) V k) (rS (x + 426) S2 F1) = some (v, rS (x + 426) S2 F1)) → ∃ v C', f_X11_of (x : Int) (k : Int) w (cS x (gS (x + 426) 12 Z F) C) = some (v, cS x (gS (x + 426) 12 Z F) C') ∧ CI x (gS (x + 426) 12 Z F) C' ∧ (∀ i, i ≠ 0 → i < 413 → C' i = C i) ∧ ∀ S2, S2.2.2.1 = Z.2.2.1 → RR (x + 426) S2 V F → ∃ F', f_X12_of ((x + 426 : Nat) : Int) (k : Int) w (rS (x + 426) S2 F) = some (v, rS (x + 426) S2 F') ∧ RI (x + 426) S2 F' ∧ (∀ i, i ≠ 6 → i ≠ 7 → i ≠ 8 → F' i = F i) := fun v h1 h2 => by
      refine ⟨v, C, h1, I, fun _ _ _ => rfl, fun S2 hS R2 => ?_⟩
      obtain ⟨F1, r1, r2, r3⟩ := rf S2 R2
      exact ⟨F1, by rw [r3]; exact h2 S2 F1 r1 r2, r1.1, r2⟩
    have ge : ∀ (S2 : jSt) (F1 : Nat → Nat → Int), RR (x + 426) S2 V F1 → (∀ i, i ≠ 6 → i ≠ 7 → i ≠ 8 → F1 i = F i) → ∀ q : Nat, q < 5 → f_X12_get ((x + 426 : Nat) : Int) (k : Int) (q : Int) (rS (x + 426) S2 F1) = some (F 1 (11 + q + 5 * k), rS (x + 426) S2 F1) := fun S2 F1 R1 f1 q hq => by
      rw [s_get R1.1 (by omega) (by omega) (by omega) (by omega), toNat_z, toNat_z, f1 1 (by omega) (by omega) (by omega), show 11 + 5 * k + q = 11 + q + 5 * k by omega]
    by_cases h0 : w = 0
    · exact pl _ (by rw [cl, if_pos h0]) (fun S2 F1 r1 r2 => by
        unfold f_X12_of_b28
        rw [if_pos h0, r_cv r1.1, show f_X12_get _ _ 0 _ = _ from ge S2 F1 r1 r2 0 (by omega), fcall_some])
    by_cases h1 : w = 1
    · exact pl _ (by rw [cl, if_neg h0, if_pos h1]) (fun S2 F1 r1 r2 => by
        unfold f_X12_of_b28
        rw [if_neg h0, if_pos h1, r_cv r1.1, show f_X12_get _ _ 2 _ = _ from ge S2 F1 r1 r2 2 (by omega), fcall_some])
    by_cases h2 : w = 2
    · exact pl _ (by rw [cl, if_neg h0, if_neg h1, if_pos h2]) (fun S2 F1 r1 r2 => by
        unfold f_X12_of_b28
        rw [if_neg h0, if_neg h1, if_pos h2, r_cv r1.1, show f_X12_get _ _ 3 _ = _ from ge S2 F1 r1 r2 3 (by omega), fcall_some])
    by_cases h3 : w = 3
    · exact pl _ (by rw [cl, if_neg h0, if_neg h1, if_neg h2, if_pos h3]) (fun S2 F1 r1 r2 => by
        unfold f_X12_of_b28
        rw [if_neg h0, if_neg h1, if_neg h2, if_pos h3, r_cv r1.1, show f_X12_get _ _ 1 _ = _ from ge S2 F1 r1 r2 1 (by omega), fcall_some])
    by_cases h4 : w = 4
    · obtain ⟨C', v, I', f'⟩ := c_reserveFor iH14 H hl.2
      refine ⟨_, C', by rw [cl, if_neg h0, if_neg h1, if_neg h2, if_neg h3, if_pos h4, v, fcall_some], I', fun i a q => f' i (by omega) (by omega), fun S2 hS R2 => ?_⟩
      obtain ⟨F1, r1, r2, r3⟩ := rf S2 R2
      have e1 := r2 1 (by omega) (by omega) (by omega)
      obtain ⟨F', g1, g2, g3⟩ := s_reserveOf r1 (l := k) (by rw [e1]; exact hl.2)
      refine ⟨F', ?_, g2, fun i a b c => (g3 i a b c).trans (r2 i a b c)⟩
      rw [r3]
      unfold f_X12_of_b28
      rw [if_neg h0, if_neg h1, if_neg h2, if_neg h3, if_pos h4, r_cv r1.1, g1, fcall_some, e1]
    by_cases h5 : w = 5
    · obtain ⟨C', v, I', f'⟩ := c_warmsBy iH14 H hl.2 (t := F 1 3) w3.2
      refine ⟨_, C', by rw [cl, if_neg h0, if_neg h1, if_neg h2, if_neg h3, if_neg h4, if_pos h5, v, fcall_some], I', fun i a q => f' i (by omega) (by omega), fun S2 hS R2 => ?_⟩
      obtain ⟨F1, r1, r2, r3⟩ := rf S2 R2
      have e1 := r2 1 (by omega) (by omega) (by omega)
      obtain ⟨F', g1, g2, g3⟩ := s_warmsOf r1 (l := k) (by rw [e1]; exact hl.2) (t := F 1 3) (by rw [e1]; exact w3)
      refine ⟨F', ?_, g2, fun i a b c => (g3 i a b c).trans (r2 i a b c)⟩
      rw [r3]
      unfold f_X12_of_b28
      rw [if_neg h0, if_neg h1, if_neg h2, if_neg h3, if_neg h4, if_pos h5, r_a r1.1, r_al r1.1 (by omega) (by omega), show (3 : Int).toNat = 3 from rfl, e1, r_cv r1.1, g1, fcall_some, e1]
    by_cases h6 : w = 6
    · obtain ⟨C', v, H', ⟨y1, y2⟩, f'⟩ := c_findWinner iH14 H hl.2
      refine ⟨_, C', by rw [cl, if_neg h0, if_neg h1, if_neg h2, if_neg h3, if_neg h4, if_neg h5, if_pos h6, v, fcall_some, cr0_8 H'.1, cg_413 H'.1, y1], H'.1, fun i a q => f' i (by omega) (by omega) (by omega), fun S2 hS R2 => ?_⟩
      obtain ⟨F1, r1, r2, r3⟩ := rf S2 R2
      refine ⟨F1, ?_, r1.1, r2⟩
      rw [r3]
      unfold f_X12_of_b28
      rw [if_neg h0, if_neg h1, if_neg h2, if_neg h3, if_neg h4, if_neg h5, if_pos h6]
    by_cases h7 : w = 7
    · obtain ⟨C', v, H', ⟨y1, y2⟩, f'⟩ := c_findWinner iH14 H hl.2
      refine ⟨_, C', by rw [cl, if_neg h0, if_neg h1, if_neg h2, if_neg h3, if_neg h4, if_neg h5, if_neg h6, if_pos h7, v, fcall_some, cr0_8 H'.1, cg_413 H'.1, y2], H'.1, fun i a q => f' i (by omega) (by omega) (by omega), fun S2 hS R2 => ?_⟩
      obtain ⟨F1, r1, r2, r3⟩ := rf S2 R2
      have e1 := r2 1 (by omega) (by omega) (by omega)
      rw [r3]
      unfold f_X12_of_b28 f_X12_of_b139
      rw [if_neg h0, if_neg h1, if_neg h2, if_neg h3, if_neg h4, if_neg h5, if_neg h6, if_pos h7]
      by_cases hw : wnv (F 1) V k = -1
      · rw [if_pos hw, if_pos hw]
        exact ⟨F1, rfl, r1.1, r2⟩
      · have hv : wnv (F 1) V k = winv (F 1) V k := by
          unfold wnv at hw ⊢
          split
          · rfl
          · rename_i z; rw [if_neg z] at hw; exact absurd rfl hw
        obtain ⟨F', g1, g2, g3⟩ := s_priceOf r1 (l := k) (by rw [e1]; exact hl.2) (by rw [e1, ← hv]; exact hw)
        rw [e1] at g1
        rw [if_neg hw, if_neg hw, hv, r_cv r1.1, g1, fcall_some]
        exact ⟨F', rfl, g2, fun i a b c => (g3 i a b c).trans (r2 i a b c)⟩
    · exact pl _ (by rw [cl, if_neg h0, if_neg h1, if_neg h2, if_neg h3, if_neg h4, if_neg h5, if_neg h6, if_neg h7]) (fun S2 F1 r1 r2 => by
        unfold f_X12_of_b28
        rw [if_neg h0, if_neg h1, if_neg h2, if_neg h3, if_neg h4, if_neg h5, if_neg h6, if_neg h7])
  · refine ⟨-2, C, ?_, I, fun _ _ _ => rfl, fun S2 hS R2 => ⟨F, ?_, R2.1, fun _ _ _ _ => rfl⟩⟩
    · unfold f_X11_of
      rw [cr0_0 I, cv_1 I, c_hasLot I T W.1, fcall_some, if_b01, if_neg hl]
    · unfold f_X12_of
      rw [r_cv R2.1, s_isLot R2.1 W.1.1, fcall_some, if_b01, if_neg hl])
end QR
