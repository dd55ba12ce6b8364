-- ledger, richest, dearest
section SM
variable {x : Nat}
def led (c : Nat → Int) (b : Int) : Nat → Int
  | 0 => 0
  | n + 1 => led c b n + (if b = -1 ∨ c (4 * n + 2) = b then c (4 * n + 3) else 0)
theorem led_b {c : Nat → Int} {b : Int} : ∀ n, (∀ i, i < n → 0 ≤ c (4 * i + 3) ∧ c (4 * i + 3) ≤ 9999) → 0 ≤ led c b n ∧ led c b n ≤ 9999 * (n : Int)
  | 0, _ => by unfold led; omega
  | n + 1, h => by
    have h1 := led_b (c := c) (b := b) n (fun i hi => h i (by omega))
    have h2 := h n (by omega)
    unfold led
    split <;> omega
theorem s_book {m : Nat} {S : jSt} {F C : Nat → Nat → Int} (R : RI m S F) (w10 : 0 ≤ F 1 10 ∧ F 1 10 ≤ 30) (B : Bk (F 1) C 14) {k : Nat} (hk : (k : Int) < F 1 10) {w : Nat} (hw : w = 2 ∨ w = 3) : f_X12_book (m : Int) (k : Int) (w : Int) (rS m S F) = some (C 19 (4 * k + w), rS m S F) := by
  obtain ⟨c0, c1, c2, c3, e1, e2⟩ := B.2 k hk
  unfold f_X12_book f_X12_book_b109
  rw [if_neg (by omega), r_a R, r_al R (by omega) (by omega), show (10 : Int).toNat = 10 from rfl, w32_of (by omega) (by omega), s_isIn, fcall_some, if_b01, if_pos (by omega), r_a R, w32_of (z := 2 * (k : Int)) (by omega) (by omega), w32_of (z := 4843 + 2 * (k : Int)) (by omega) (by omega), r_al R (by omega) (by omega), show (4843 + 2 * (k : Int)).toNat = 4843 + 2 * k by omega, e1, if_neg (by omega), if_neg (by omega)]
  rcases hw with rfl | rfl
  · rw [if_pos (by omega), if_neg (by decide), irem_n (by omega) (by omega) (by omega) (by omega)]
    show some (_, rS m S F) = some (C (14 + 5) (4 * k + 2), rS m S F)
    congr 2
    omega
  · rw [if_neg (by omega), if_pos (by omega), r_a R, w32_of (z := 4843 + 2 * (k : Int) + 1) (by omega) (by omega), r_al R (by omega) (by omega), show (4843 + 2 * (k : Int) + 1).toNat = 4844 + 2 * k by omega, e2]
theorem g_ledger (b : Int) : Good x (f_X11_ledger (x : Int) b) (f_X12_ledger ((x + 426 : Nat) : Int) b) := Good_q (fun Z C F V h H => by
  have I := H.1
  have T := h.2.1.1
  have W := H.2.2.2.1
  have w10 := W.1.2.2.2.2.2.2.2.2
  have B := H.2.2.2.2.2 rfl
  obtain ⟨b0, b1⟩ := B
  obtain ⟨N, hN⟩ : ∃ N : Nat, F 1 10 = (N : Int) := ⟨(F 1 10).toNat, by omega⟩
  have lb : ∀ n, n ≤ N → 0 ≤ led (C 19) b n ∧ led (C 19) b n ≤ 9999 * (n : Int) := fun n hn => led_b n (fun i hi => (b1 i (by omega)).2.2.2.1)
  have cl : f_X11_ledger_b23 (x : Int) b 0 0 (cS x (gS (x + 426) 12 Z F) C) = some (led (C 19) b N, cS x (gS (x + 426) 12 Z F) C) := by
    unfold f_X11_ledger_b23
    refine lp (fun (r : Int → Int → Int → Int → fK) i => r (x : Int) b (led (C 19) b i) (i : Int) (cS x (gS (x + 426) 12 Z F) C)) (N := N) ?_ ?_ jN 0 (by omega) (by unfold jN; omega)
    · intro r i hi hr
      show f_X11_ledger_b23B r _ _ _ _ _ = _
      unfold f_X11_ledger_b23B f_X11_ledger_b56 f_X11_ledger_b72
      have l1 := lb i (by omega)
      have l2 := (b1 i (by omega)).2.2.2.1
      have ll : led (C 19) b (i + 1) = led (C 19) b i + (if b = -1 ∨ C 19 (4 * i + 2) = b then C 19 (4 * i + 3) else 0) := rfl
      have a3 : ∀ f, fald (cS x (gS (x + 426) 12 Z F) C) ((x + (14 + 5) : Nat) : Int) (w32 (w32 ((i : Int) * 4) + 3)) 1 f = f (C 19 (4 * i + 3)) := fun f => by
        rw [w32_of (z := (i : Int) * 4) (by omega) (by omega), w32_of (by omega) (by omega), alh_5 I iH14 (by omega) (by omega), show ((i : Int) * 4 + 3).toNat = 4 * i + 3 by omega]
      have a2 : ∀ f, fald (cS x (gS (x + 426) 12 Z F) C) ((x + (14 + 5) : Nat) : Int) (w32 (w32 ((i : Int) * 4) + 2)) 1 f = f (C 19 (4 * i + 2)) := fun f => by
        rw [w32_of (z := (i : Int) * 4) (by omega) (by omega), w32_of (by omega) (by omega), alh_5 I iH14 (by omega) (by omega), show ((i : Int) * 4 + 2).toNat = 4 * i + 2 by omega]
      have l2' : 0 ≤ C 19 (4 * i + 3) ∧ C 19 (4 * i + 3) ≤ 9999 := l2
      rw [cr0_1 I, cg_h I iH14, b0, hN, if_neg (by omega)]
      simp only [cr0_1 I, crh_4 I iH14, a3, a2, flet_eq]
      rw [w32_of (z := (i : Int) + 1) (by omega) (by omega), w32_of (z := led (C 19) b i + C 19 (4 * i + 3)) (by omega) (by omega), zs]
      by_cases hb : b = -1
      · rw [if_pos hb]
        rw [ll, if_pos (Or.inl hb)] at hr
        exact hr
      · rw [if_neg hb]
        by_cases hc : C 19 (4 * i + 2) = b
        · rw [if_pos hc]
          rw [ll, if_pos (Or.inr hc)] at hr
          exact hr
        · rw [if_neg hc]
          rw [ll, if_neg (fun z => z.elim hb hc), Int.add_zero] at hr
          exact hr
    · intro r
      show f_X11_ledger_b23B r _ _ _ _ _ = _
      unfold f_X11_ledger_b23B
      rw [cr0_1 I, cg_h I iH14, b0, hN, if_pos (by omega)]
  have rf : ∀ S2, RI (x + 426) S2 F → f_X12_ledger_b20 ((x + 426 : Nat) : Int) b 0 0 (rS (x + 426) S2 F) = some (led (C 19) b N, rS (x + 426) S2 F) := fun S2 R => by
    unfold f_X12_ledger_b20
    refine lp (fun (r : Int → Int → Int → Int → fK) i => r ((x + 426 : Nat) : Int) b (led (C 19) b i) (i : Int) (rS (x + 426) S2 F)) (N := N) ?_ ?_ jN 0 (by omega) (by unfold jN; omega)
    · intro r i hi hr
      show f_X12_ledger_b20B r _ _ _ _ _ = _
      unfold f_X12_ledger_b20B f_X12_ledger_b47 f_X12_ledger_b57
      have l1 := lb i (by omega)
      have l2' : 0 ≤ C 19 (4 * i + 3) ∧ C 19 (4 * i + 3) ≤ 9999 := (b1 i (by omega)).2.2.2.1
      have ll : led (C 19) b (i + 1) = led (C 19) b i + (if b = -1 ∨ C 19 (4 * i + 2) = b then C 19 (4 * i + 3) else 0) := rfl
      have k3 : f_X12_book ((x + 426 : Nat) : Int) (i : Int) 3 (rS (x + 426) S2 F) = some (C 19 (4 * i + 3), rS (x + 426) S2 F) := s_book R w10 ⟨b0, b1⟩ (by omega) (w := 3) (by omega)
      have k2 : f_X12_book ((x + 426 : Nat) : Int) (i : Int) 2 (rS (x + 426) S2 F) = some (C 19 (4 * i + 2), rS (x + 426) S2 F) := s_book R w10 ⟨b0, b1⟩ (by omega) (w := 2) (by omega)
      rw [r_a R, r_al R (by omega) (by omega), show (10 : Int).toNat = 10 from rfl, hN, if_neg (by omega), r_cv R, k3, fcall_some, flet_eq, flet_eq, w32_of (z := led (C 19) b i + C 19 (4 * i + 3)) (by omega) (by omega), w32_of (z := (i : Int) + 1) (by omega) (by omega), zs]
      by_cases hb : b = -1
      · rw [if_pos hb]
        rw [ll, if_pos (Or.inl hb)] at hr
        exact hr
      · rw [if_neg hb, r_cv R, k2, fcall_some]
        by_cases hc : C 19 (4 * i + 2) = b
        · rw [if_pos hc]
          rw [r_cv R, k3, fcall_some, flet_eq, flet_eq, w32_of (z := led (C 19) b i + C 19 (4 * i + 3)) (by omega) (by omega)]
          rw [ll, if_pos (Or.inr hc)] at hr
          exact hr
        · rw [if_neg hc, flet_eq, flet_eq, w32_of (z := led (C 19) b i + 0) (by omega) (by omega)]
          rw [ll, if_neg (fun z => z.elim hb hc)] at hr
          exact hr
    · intro r
      show f_X12_ledger_b20B r _ _ _ _ _ = _
      unfold f_X12_ledger_b20B
      rw [r_a R, r_al R (by omega) (by omega), show (10 : Int).toNat = 10 from rfl, hN, if_pos (by omega)]
  unfold f_X11_ledger f_X11_ledger_b19 f_X12_ledger f_X12_ledger_b16
  by_cases hm : b = -1
  · refine ⟨_, by rw [if_pos hm]; exact cl, fun S2 hS R2 => by rw [if_pos hm]; exact rf S2 R2.1⟩
  · rw [if_neg hm, cr0_0 I, cv_1 I, c_hasBidder I T W.1, fcall_some, if_b01]
    by_cases hb : 0 ≤ b ∧ b < F 1 1
    · refine ⟨_, by rw [if_pos hb]; exact cl, fun S2 hS R2 => ?_⟩
      rw [if_neg hm, r_cv R2.1, s_isBidder R2.1 W.1.2.1, fcall_some, if_b01, if_pos hb]
      exact rf S2 R2.1
    · refine ⟨-2, by rw [if_neg hb], fun S2 hS R2 => ?_⟩
      rw [if_neg hm, r_cv R2.1, s_isBidder R2.1 W.1.2.1, fcall_some, if_b01, if_neg hb])
def rch (p : Nat → Int) : Nat → Int
  | 0 => -1
  | n + 1 => if rch p n = -1 then (n : Int) else if p n ≤ p (rch p n).toNat then rch p n else (n : Int)
theorem rch_b {p : Nat → Int} : ∀ n, -1 ≤ rch p n ∧ rch p n < (n : Int)
  | 0 => by unfold rch; omega
  | n + 1 => by
    have := rch_b (p := p) n
    unfold rch
    split
    · omega
    · split <;> omega
theorem g_richest : Good x (f_X11_richest (x : Int)) (f_X12_richest ((x + 426 : Nat) : Int)) := Good_q (fun Z C F V h H => by
  have I := H.1
  have t1 := h.2.1.1.2.1
  have W := H.2.2.2.1
  have w1 := W.1.2.1
  have HB := H.2.2.1.2.2.1
  obtain ⟨N, hN⟩ : ∃ N : Nat, F 1 1 = (N : Int) := ⟨(F 1 1).toNat, by omega⟩
  obtain ⟨p, hp⟩ : ∃ p : Nat → Int, p = fun b => F 1 (71 + 14 * b) := ⟨_, rfl⟩
  have pe : ∀ b, p b = F 1 (71 + 14 * b) := fun b => by rw [hp]
  refine ⟨rch p N, ?_, fun S2 hS R2 => ?_⟩
  · unfold f_X11_richest f_X11_richest_b6
    refine lp (fun (r : Int → Int → Int → Int → fK) i => r (x : Int) (rch p i) (if rch p i = -1 then -1 else p (rch p i).toNat) (i : Int) (cS x (gS (x + 426) 12 Z F) C)) (N := N) ?_ ?_ jN 0 (by omega) (by unfold jN; omega)
    · intro r i hi hr
      show f_X11_richest_b6B r _ _ _ _ _ = _
      unfold f_X11_richest_b6B f_X11_richest_b42
      have e3 : C (14 + 3) i = p i := by rw [pe]; exact (HB i (by omega)).1
      have p0 : 0 ≤ p i := by rw [pe]; exact (W.2.2 i (by omega)).1.1
      have rr : rch p (i + 1) = if rch p i = -1 then (i : Int) else if p i ≤ p (rch p i).toNat then rch p i else (i : Int) := rfl
      rw [cr0_0 I, cg_1 I, t1, hN, if_neg (by omega), cr0_1 I, crh_2 I iH14, alh_3 I iH14 (by omega) (by omega), toNat_z, e3]
      simp only [flet_eq]
      rw [w32_of (z := (i : Int) + 1) (by omega) (by omega), zs, cr0_1 I, crh_2 I iH14, alh_3 I iH14 (by omega) (by omega), toNat_z, e3]
      rw [rr] at hr
      by_cases h1 : rch p i = -1
      · rw [if_pos h1, if_neg (by omega)]
        rw [if_pos h1, if_neg (by omega), toNat_z] at hr
        exact hr
      · rw [if_neg h1]
        rw [if_neg h1] at hr
        by_cases h2 : p i ≤ p (rch p i).toNat
        · rw [if_pos h2]
          rw [if_pos h2, if_neg h1] at hr
          exact hr
        · rw [if_neg h2]
          rw [if_neg h2, if_neg (by omega), toNat_z] at hr
          exact hr
    · intro r
      show f_X11_richest_b6B r _ _ _ _ _ = _
      unfold f_X11_richest_b6B
      rw [cr0_0 I, cg_1 I, t1, hN, if_pos (by omega)]
  · have R := R2.1
    unfold f_X12_richest f_X12_richest_b4
    refine lp (fun (r : Int → Int → Int → fK) i => r ((x + 426 : Nat) : Int) (rch p i) (i : Int) (rS (x + 426) S2 F)) (N := N) ?_ ?_ jN 0 (by omega) (by unfold jN; omega)
    · intro r i hi hr
      show f_X12_richest_b4B r _ _ _ _ = _
      unfold f_X12_richest_b4B f_X12_richest_b34 f_X12_richest_b36
      have rb := rch_b (p := p) i
      have rr : rch p (i + 1) = if rch p i = -1 then (i : Int) else if p i ≤ p (rch p i).toNat then rch p i else (i : Int) := rfl
      simp only [flet_eq]
      rw [r_a R, r_al R (by omega) (by omega), show (1 : Int).toNat = 1 from rfl, hN, if_neg (by omega), w32_of (z := (i : Int) + 1) (by omega) (by omega), zs]
      rw [rr] at hr
      by_cases h1 : rch p i = -1
      · rw [if_pos h1]
        rw [if_pos h1] at hr
        exact hr
      · rw [if_neg h1, r_cv R, s_own R (by omega) (by omega) (by omega) (by omega), fcall_some, r_cv R, s_own R (by omega) (by omega) (by omega) (by omega), fcall_some, toNat_z, show (0 : Int).toNat = 0 from rfl, Nat.add_zero, Nat.add_zero, ← pe, ← pe]
        rw [if_neg h1] at hr
        by_cases h2 : p i ≤ p (rch p i).toNat
        · rw [if_pos h2]
          rw [if_pos h2] at hr
          exact hr
        · rw [if_neg h2]
          rw [if_neg h2] at hr
          exact hr
    · intro r
      show f_X12_richest_b4B r _ _ _ _ = _
      unfold f_X12_richest_b4B
      rw [r_a R, r_al R (by omega) (by omega), show (1 : Int).toNat = 1 from rfl, hN, if_pos (by omega)])
theorem s_of7 {m : Nat} {S : jSt} {V : LwV} {F : Nat → Nat → Int} (h : RR m S V F) {k : Nat} (hk : (k : Int) < F 1 0) : ∃ F', f_X12_of (m : Int) (k : Int) 7 (rS m S F) = some (if wnv (F 1) V k = -1 then -1 else pricev (F 1) V k, rS m S F') ∧ RI m S F' ∧ ∀ i, i ≠ 6 → i ≠ 7 → i ≠ 8 → F' i = F i := by
  have W := h.2.1
  unfold f_X12_of wnv
  rw [r_cv h.1, s_isLot h.1 W.1.1, fcall_some, if_b01, if_pos ⟨by omega, hk⟩, r_cv h.1, s_isInHouse h.1 W.1.1, fcall_some, if_b01, toNat_z]
  unfold f_X12_of_b28 f_X12_of_b139
  by_cases hh : F 1 (12 + 5 * k) = 0
  · rw [if_pos ⟨⟨by omega, hk⟩, hh⟩, if_pos hh, r_cv h.1]
    obtain ⟨F1, g1, g2, g3⟩ := s_winnerOf h hk
    have h1 := RR_k h g2 g3
    have e1 := g3 1 (by omega) (by omega) (by omega)
    rw [g1, fcall_some, if_neg (by decide), if_neg (by decide), if_neg (by decide), if_neg (by decide), if_neg (by decide), if_neg (by decide), if_neg (by decide), if_pos rfl]
    by_cases hw : winv (F 1) V k = -1
    · rw [if_pos hw, if_pos hw]
      exact ⟨F1, rfl, g2, g3⟩
    · obtain ⟨F', q1, q2, q3⟩ := s_priceOf h1 (l := k) (by rw [e1]; exact hk) (by rw [e1]; exact hw)
      rw [e1] at q1
      rw [if_neg hw, if_neg hw, r_cv h1.1, q1, fcall_some]
      exact ⟨F', rfl, q2, fun i a b c => (q3 i a b c).trans (g3 i a b c)⟩
  · rw [if_neg (fun z => hh z.2), if_neg hh, if_neg (by decide), if_neg (by decide), if_neg (by decide), if_neg (by decide), if_neg (by decide), if_neg (by decide), if_neg (by decide), if_pos rfl, if_pos rfl, if_pos rfl]
    exact ⟨F, rfl, h.1, fun _ _ _ _ => rfl⟩
def dea (p : Nat → Int) : Nat → Int × Int
  | 0 => (-1, 0)
  | n + 1 => if p n ≤ (dea p n).2 then dea p n else ((n : Int), p n)
theorem g_dearest : Good x (f_X11_dearest (x : Int)) (f_X12_dearest ((x + 426 : Nat) : Int)) := Good_p (fun Z C F V h H => by
  have t0 := h.2.1.1.1
  have W := H.2.2.2.1
  have w0 := W.1.1
  obtain ⟨N, hN⟩ : ∃ N : Nat, F 1 0 = (N : Int) := ⟨(F 1 0).toNat, by omega⟩
  obtain ⟨p, hp⟩ : ∃ p : Nat → Int, p = fun k => if wnv (F 1) V k = -1 then -1 else pricev (F 1) V k := ⟨_, rfl⟩
  have pe : ∀ k, p k = if wnv (F 1) V k = -1 then -1 else pricev (F 1) V k := fun k => by rw [hp]
  have cl : ∃ C', f_X11_dearest (x : Int) (cS x (gS (x + 426) 12 Z F) C) = some ((dea p N).1, cS x (gS (x + 426) 12 Z F) C') ∧ CI x (gS (x + 426) 12 Z F) C' ∧ ∀ i, i ≠ 413 → i ≠ 415 → i ≠ 416 → C' i = C i := by
    unfold f_X11_dearest f_X11_dearest_b6
    refine lpe (fun (r : Int → Int → Int → Int → fK) i (c : Nat → Nat → Int) => r (x : Int) (dea p i).1 (dea p i).2 (i : Int) (cS x (gS (x + 426) 12 Z F) c)) (fun i c => HR true x (gS (x + 426) 12 Z F) V (F 1) c 14 ∧ ∀ i, i ≠ 413 → i ≠ 415 → i ≠ 416 → c i = C i) (fun r => ∃ C', r = some ((dea p N).1, cS x (gS (x + 426) 12 Z F) C') ∧ CI x (gS (x + 426) 12 Z F) C' ∧ ∀ i, i ≠ 413 → i ≠ 415 → i ≠ 416 → C' i = C i) (N := N) ?_ ?_ jN 0 C (by omega) (by unfold jN; omega) ⟨H, fun _ _ _ _ => rfl⟩
    · intro r i c hi hinv ih
      obtain ⟨Hc, fc⟩ := hinv
      have I := Hc.1
      show ∃ C', f_X11_dearest_b6B r _ _ _ _ _ = _ ∧ _
      unfold f_X11_dearest_b6B f_X11_dearest_b50
      obtain ⟨C', v, H', ⟨y1, y2⟩, f'⟩ := c_findWinner iH14 Hc (l := i) (by omega)
      rw [← pe] at y2
      have I' := H'.1
      have dd : dea p (i + 1) = if p i ≤ (dea p i).2 then dea p i else ((i : Int), p i) := rfl
      rw [cr0_0 I, cg_1 I, fc 1 (by omega) (by omega) (by omega), t0, hN, if_neg (by omega), cr0_8 I, cr0_1 I, cv_413 I, v, fcall_some, cr0_8 I', cg_413 I', y2]
      simp only [flet_eq]
      rw [w32_of (z := (i : Int) + 1) (by omega) (by omega), zs, cr0_8 I', cg_413 I', y2]
      have ih' := ih C' ⟨H', fun j a b d => by rw [f' j a b d, fc j a b d]⟩
      rw [dd] at ih'
      by_cases h2 : p i ≤ (dea p i).2
      · rw [if_pos h2]
        rw [if_pos h2] at ih'
        exact ih'
      · rw [if_neg h2]
        rw [if_neg h2] at ih'
        exact ih'
    · intro r c hinv
      obtain ⟨Hc, fc⟩ := hinv
      have I := Hc.1
      show ∃ C', f_X11_dearest_b6B r _ _ _ _ _ = _ ∧ _
      unfold f_X11_dearest_b6B
      rw [cr0_0 I, cg_1 I, fc 1 (by omega) (by omega) (by omega), t0, hN, if_pos (by omega)]
      exact ⟨c, rfl, I, fc⟩
  obtain ⟨C', e, I', f'⟩ := cl
  refine ⟨_, C', e, I', fun i a b => f' i (by omega) (by omega) (by omega), fun S2 hS R2 => ?_⟩
  unfold f_X12_dearest f_X12_dearest_b6
  refine lpe (fun (r : Int → Int → Int → Int → fK) i (c : Nat → Nat → Int) => r ((x + 426 : Nat) : Int) (dea p i).1 (dea p i).2 (i : Int) (rS (x + 426) S2 c)) (fun i c => RR (x + 426) S2 V c ∧ ∀ i, i ≠ 6 → i ≠ 7 → i ≠ 8 → c i = F i) (fun r => ∃ F', r = some ((dea p N).1, rS (x + 426) S2 F') ∧ RI (x + 426) S2 F' ∧ ∀ i, i ≠ 6 → i ≠ 7 → i ≠ 8 → F' i = F i) (N := N) ?_ ?_ jN 0 F (by omega) (by unfold jN; omega) ⟨R2, fun _ _ _ _ => rfl⟩
  · intro r i c hi hinv ih
    obtain ⟨Rc, fc⟩ := hinv
    have R := Rc.1
    have e1 := fc 1 (by omega) (by omega) (by omega)
    show ∃ F', f_X12_dearest_b6B r _ _ _ _ _ = _ ∧ _
    unfold f_X12_dearest_b6B f_X12_dearest_b39
    obtain ⟨F', g1, g2, g3⟩ := s_of7 Rc (k := i) (by rw [e1]; omega)
    rw [e1, ← pe] at g1
    have dd : dea p (i + 1) = if p i ≤ (dea p i).2 then dea p i else ((i : Int), p i) := rfl
    rw [r_a R, r_al R (by omega) (by omega), show (0 : Int).toNat = 0 from rfl, e1, hN, if_neg (by omega), r_cv R, g1, fcall_some]
    simp only [flet_eq]
    rw [w32_of (z := (i : Int) + 1) (by omega) (by omega), zs]
    have ih' := ih F' ⟨RR_k Rc g2 g3, fun j a b d => (g3 j a b d).trans (fc j a b d)⟩
    rw [dd] at ih'
    by_cases h2 : p i ≤ (dea p i).2
    · rw [if_neg (by omega)]
      rw [if_pos h2] at ih'
      exact ih'
    · rw [if_pos (by omega)]
      rw [if_neg h2] at ih'
      exact ih'
  · intro r c hinv
    obtain ⟨Rc, fc⟩ := hinv
    have R := Rc.1
    show ∃ F', f_X12_dearest_b6B r _ _ _ _ _ = _ ∧ _
    unfold f_X12_dearest_b6B
    rw [r_a R, r_al R (by omega) (by omega), show (0 : Int).toNat = 0 from rfl, fc 1 (by omega) (by omega) (by omega), hN, if_pos (by omega)]
    exact ⟨c, rfl, R, fc⟩)
end SM
