def oth (f : Nat → Int) (w res : Int) : Nat → Int
  | 0 => res
  | n + 1 => if oth f w res n < (if (n : Int) = w then 0 else f n) then (if (n : Int) = w then 0 else f n) else oth f w res n
theorem oth_n (f : Nat → Int) (w : Int) {res : Int} (hr : 0 ≤ res) : ∀ n, 0 ≤ oth f w res n
  | 0 => hr
  | n + 1 => by
    have := oth_n f w hr n
    unfold oth
    (repeat' split) <;> omega
theorem oth_all (f : Nat → Int) (w : Int) {res : Int} (hr : 0 ≤ res) : ∀ n : Nat, (∀ i : Nat, i < n → (i : Int) ≠ w) → oth f w res n = imax (bst3 f n).2.1 res
  | 0, _ => by
    show res = imax (-1) res
    unfold imax
    rw [if_pos (by omega)]
  | n + 1, h => by
    have ih := oth_all f w hr n (fun i hi => h i (by omega))
    unfold oth bst3
    rw [if_neg (h n (by omega)), ih]
    unfold imax
    (repeat' split) <;> simp_all <;> omega
theorem oth_bst (f : Nat → Int) {res : Int} (hr : 0 ≤ res) : ∀ n : Nat, (∀ b, b < n → 0 ≤ f b ∧ f b ≤ 9999) → oth f (bst3 f n).1 res n = imax (bst3 f n).2.2 res
  | 0, _ => by
    show res = imax (-1) res
    unfold imax
    rw [if_pos (by omega)]
  | n + 1, h => by
    have ih := oth_bst f hr n (fun b hb => h b (by omega))
    have hn := bst3_n f (T := 9999) (by omega) n (fun b hb => h b (by omega))
    have hf := h n (by omega)
    by_cases c : (bst3 f n).2.1 < f n
    · have e : bst3 f (n + 1) = ((n : Int), f n, (bst3 f n).2.1) := by
        conv => lhs; unfold bst3
        rw [if_pos c]
      rw [e]
      show oth f (n : Int) res (n + 1) = imax (bst3 f n).2.1 res
      unfold oth
      rw [if_pos rfl, oth_all f (n : Int) hr n (fun i hi => by omega), if_neg]
      unfold imax
      split <;> omega
    · have e : bst3 f (n + 1) = ((bst3 f n).1, (bst3 f n).2.1, if (bst3 f n).2.2 < f n then f n else (bst3 f n).2.2) := by
        conv => lhs; unfold bst3
        rw [if_neg c]
      rw [e]
      show oth f (bst3 f n).1 res (n + 1) = imax (if (bst3 f n).2.2 < f n then f n else (bst3 f n).2.2) res
      have hne : ¬ (n : Int) = (bst3 f n).1 := by omega
      unfold oth
      rw [if_neg hne, ih]
      unfold imax
      (repeat' split) <;> omega
section RS2
variable {m : Nat} {S : jSt} {V : LwV} {F : Nat → Nat → Int}
theorem bid_r (W : Wf (F 1)) (l : Nat) : ∀ b, b < (F 1 1).toNat → 0 ≤ bidv (F 1) V b l ∧ bidv (F 1) V b l ≤ 9999 := fun b hb => by
  have := (W.2.2 b (by omega)).1
  have := bidv_n V b l (a := F 1) (by omega)
  omega
theorem s_winnerOf (h : RR m S V F) {l : Nat} (hl : (l : Int) < F 1 0) : ∃ F', f_X12_winnerOf (m : Int) (l : Int) (rS m S F) = some (winv (F 1) V l, rS m S F') ∧ RI m S F' ∧ ∀ i, i ≠ 6 → i ≠ 7 → i ≠ 8 → F' i = F i := by
  have h0 := h
  obtain ⟨R, W, L⟩ := h
  obtain ⟨w0, w1, _⟩ := W.1
  unfold f_X12_winnerOf f_X12_winnerOf_b7
  refine lpe (fun (r : Int → Int → Int → Int → Int → fK) i (c : Nat → Nat → Int) => r (m : Int) (l : Int) (bst3 (fun b => bidv (F 1) V b l) i).1 (bst3 (fun b => bidv (F 1) V b l) i).2.1 (i : Int) (rS m S c)) (fun i c => RI m S c ∧ ∀ i, i ≠ 6 → i ≠ 7 → i ≠ 8 → c i = F i) (fun r => ∃ F', r = some (winv (F 1) V l, rS m S F') ∧ RI m S F' ∧ ∀ i, i ≠ 6 → i ≠ 7 → i ≠ 8 → F' i = F i) (N := (F 1 1).toNat) ?_ ?_ jN 0 F (by omega) (by unfold jN; omega) ⟨R, fun _ _ _ _ => rfl⟩
  · intro r i c hi hinv ih
    obtain ⟨Rc, cf⟩ := hinv
    have c1 : c 1 = F 1 := cf 1 (by decide) (by decide) (by decide)
    have hc : RR m S V c := RR_fr h0 Rc (fun i _ q1 q2 q3 => cf i q1 q2 q3)
    show ∃ F', f_X12_winnerOf_b7B r _ _ _ _ _ _ = _ ∧ _
    unfold f_X12_winnerOf_b7B f_X12_winnerOf_b42
    obtain ⟨c', v1, R', f'⟩ := s_bidOf hc (b := i) (l := l) (by rw [c1]; omega) (by rw [c1]; exact hl)
    rw [c1] at v1
    rw [r_a Rc, r_al Rc (by omega) (by omega), c1, show (1 : Int).toNat = 1 from rfl, if_neg (by omega), r_cv Rc, v1, fcall_some]
    simp only [flet_eq]
    rw [w32_of (by omega) (by omega), zs]
    have ih' := ih c' ⟨R', fun j q1 q2 q3 => (f' j q1 q2 q3).trans (cf j q1 q2 q3)⟩
    by_cases q : (bst3 (fun b => bidv (F 1) V b l) i).2.1 < bidv (F 1) V i l
    · have eb : bst3 (fun b => bidv (F 1) V b l) (i + 1) = ((i : Int), bidv (F 1) V i l, (bst3 (fun b => bidv (F 1) V b l) i).2.1) := by
        conv => lhs; unfold bst3
        rw [if_pos q]
      rw [if_pos q]
      simp only [eb] at ih'
      exact ih'
    · have eb : bst3 (fun b => bidv (F 1) V b l) (i + 1) = ((bst3 (fun b => bidv (F 1) V b l) i).1, (bst3 (fun b => bidv (F 1) V b l) i).2.1, if (bst3 (fun b => bidv (F 1) V b l) i).2.2 < bidv (F 1) V i l then bidv (F 1) V i l else (bst3 (fun b => bidv (F 1) V b l) i).2.2) := by
        conv => lhs; unfold bst3
        rw [if_neg q]
      rw [if_neg q]
      simp only [eb] at ih'
      exact ih'
  · intro r c hinv
    obtain ⟨Rc, cf⟩ := hinv
    have c1 : c 1 = F 1 := cf 1 (by decide) (by decide) (by decide)
    have hc : RR m S V c := RR_fr h0 Rc (fun i _ q1 q2 q3 => cf i q1 q2 q3)
    show ∃ F', f_X12_winnerOf_b7B r _ _ _ _ _ _ = _ ∧ _
    unfold f_X12_winnerOf_b7B f_X12_winnerOf_b66 f_X12_winnerOf_b67 winv
    have hn := bst3_n (fun b => bidv (F 1) V b l) (T := 9999) (by omega) (F 1 1).toNat (bid_r W l)
    rw [r_a Rc, r_al Rc (by omega) (by omega), c1, show (1 : Int).toNat = 1 from rfl, if_pos (by omega)]
    by_cases q : (bst3 (fun b => bidv (F 1) V b l) (F 1 1).toNat).1 = -1
    · rw [if_pos q]
      refine ⟨c, ?_, Rc, cf⟩
      rw [if_neg (fun z => by have := (hn.2.2.2.1 (by omega)).1; omega)]
    · have h1 : 0 < F 1 1 := by
        by_cases z : 0 < F 1 1
        · exact z
        · exfalso
          apply q
          rw [show (F 1 1).toNat = 0 by omega]
          rfl
      obtain ⟨c', v1, R', f'⟩ := s_reserveOf hc (l := l) (by rw [c1]; exact hl)
      rw [c1] at v1
      rw [if_neg q, r_cv Rc, v1, fcall_some]
      refine ⟨c', ?_, R', fun j q1 q2 q3 => (f' j q1 q2 q3).trans (cf j q1 q2 q3)⟩
      by_cases q2 : (bst3 (fun b => bidv (F 1) V b l) (F 1 1).toNat).2.1 < resv (F 1) V l
      · rw [if_pos q2, if_neg (by omega)]
      · rw [if_neg q2, if_pos ⟨h1, by omega⟩]
theorem s_priceOf (h : RR m S V F) {l : Nat} (hl : (l : Int) < F 1 0) (hw : ¬ winv (F 1) V l = -1) : ∃ F', f_X12_priceOf (m : Int) (l : Int) (winv (F 1) V l) (rS m S F) = some (pricev (F 1) V l, rS m S F') ∧ RI m S F' ∧ ∀ i, i ≠ 6 → i ≠ 7 → i ≠ 8 → F' i = F i := by
  have h0 := h
  obtain ⟨R, W, L⟩ := h
  obtain ⟨w0, w1, _⟩ := W.1
  have ew : winv (F 1) V l = (bst3 (fun b => bidv (F 1) V b l) (F 1 1).toNat).1 := by
    unfold winv at hw ⊢
    by_cases q : 0 < F 1 1 ∧ resv (F 1) V l ≤ (bst3 (fun b => bidv (F 1) V b l) (F 1 1).toNat).2.1
    · rw [if_pos q]
    · rw [if_neg q] at hw
      exact absurd rfl hw
  have er := resv_n (F 1) V l
  have ep : pricev (F 1) V l = oth (fun b => bidv (F 1) V b l) (winv (F 1) V l) (resv (F 1) V l) (F 1 1).toNat := by
    rw [ew, oth_bst _ er.1 _ (bid_r W l)]
    rfl
  obtain ⟨F1, v1, R1, f1⟩ := s_reserveOf h0 hl
  unfold f_X12_priceOf f_X12_priceOf_b9
  rw [r_cv R, v1, fcall_some, ep]
  refine lpe (fun (r : Int → Int → Int → Int → Int → fK) i (c : Nat → Nat → Int) => r (m : Int) (l : Int) (winv (F 1) V l) (oth (fun b => bidv (F 1) V b l) (winv (F 1) V l) (resv (F 1) V l) i) (i : Int) (rS m S c)) (fun i c => RI m S c ∧ ∀ i, i ≠ 6 → i ≠ 7 → i ≠ 8 → c i = F i) (fun r => ∃ F', r = some (oth (fun b => bidv (F 1) V b l) (winv (F 1) V l) (resv (F 1) V l) (F 1 1).toNat, rS m S F') ∧ RI m S F' ∧ ∀ i, i ≠ 6 → i ≠ 7 → i ≠ 8 → F' i = F i) (N := (F 1 1).toNat) ?_ ?_ jN 0 F1 (by omega) (by unfold jN; omega) ⟨R1, f1⟩
  · intro r i c hi hinv ih
    obtain ⟨Rc, cf⟩ := hinv
    have c1 : c 1 = F 1 := cf 1 (by decide) (by decide) (by decide)
    have hc : RR m S V c := RR_fr h0 Rc (fun i _ q1 q2 q3 => cf i q1 q2 q3)
    show ∃ F', f_X12_priceOf_b9B r _ _ _ _ _ _ = _ ∧ _
    unfold f_X12_priceOf_b9B f_X12_priceOf_b37 f_X12_priceOf_b51
    obtain ⟨c', v1, R', f'⟩ := s_bidOf hc (b := i) (l := l) (by rw [c1]; omega) (by rw [c1]; exact hl)
    rw [c1] at v1
    rw [r_a Rc, r_al Rc (by omega) (by omega), c1, show (1 : Int).toNat = 1 from rfl, if_neg (by omega)]
    simp only [flet_eq]
    rw [w32_of (by omega) (by omega), zs]
    have eo : oth (fun b => bidv (F 1) V b l) (winv (F 1) V l) (resv (F 1) V l) (i + 1) = if oth (fun b => bidv (F 1) V b l) (winv (F 1) V l) (resv (F 1) V l) i < (if (i : Int) = winv (F 1) V l then 0 else bidv (F 1) V i l) then (if (i : Int) = winv (F 1) V l then 0 else bidv (F 1) V i l) else oth (fun b => bidv (F 1) V b l) (winv (F 1) V l) (resv (F 1) V l) i := by
      conv => lhs; unfold oth
    by_cases q : (i : Int) = winv (F 1) V l
    · have hn := oth_n (fun b => bidv (F 1) V b l) (winv (F 1) V l) er.1 i
      have ih' := ih c ⟨Rc, cf⟩
      rw [eo, if_pos q, if_neg (by omega)] at ih'
      rw [if_pos q, if_pos hn]
      exact ih'
    · have ih' := ih c' ⟨R', fun j q1 q2 q3 => (f' j q1 q2 q3).trans (cf j q1 q2 q3)⟩
      rw [eo, if_neg q] at ih'
      rw [if_neg q, r_cv Rc, v1, fcall_some]
      by_cases q2 : oth (fun b => bidv (F 1) V b l) (winv (F 1) V l) (resv (F 1) V l) i < bidv (F 1) V i l
      · rw [if_neg (by omega)]
        rw [if_pos q2] at ih'
        exact ih'
      · rw [if_pos (by omega)]
        rw [if_neg q2] at ih'
        exact ih'
  · intro r c hinv
    obtain ⟨Rc, cf⟩ := hinv
    have c1 : c 1 = F 1 := cf 1 (by decide) (by decide) (by decide)
    show ∃ F', f_X12_priceOf_b9B r _ _ _ _ _ _ = _ ∧ _
    unfold f_X12_priceOf_b9B
    rw [r_a Rc, r_al Rc (by omega) (by omega), c1, show (1 : Int).toNat = 1 from rfl, if_pos (by omega)]
    exact ⟨c, rfl, Rc, cf⟩
-- the book
theorem s_write71 (R : RI m S F) (W : Wf (F 1)) (h10 : F 1 10 < 30) {l b p : Int} (hl : 0 ≤ l ∧ l < 12) (hb : 0 ≤ b ∧ b < 5) : f_X12_write_b71 (m : Int) l b p (rS m S F) = some (0, rA m S F (va_up (va_up (va_up (F 1) (4843 + 2 * (F 1 10).toNat) ((F 1 7 * 16 + l) * 8 + b)) (4843 + 2 * (F 1 10).toNat + 1) p) 10 (F 1 10 + 1))) := by
  obtain ⟨w0, w1, w2, w3, w4, w7, w8, w9, w10⟩ := W.1
  unfold f_X12_write_b71
  simp (disch := first | omega | exact R | exact rU R _) only [r_a, r_al, r_st, va_up_self, va_uu, w32_of, show (10 : Int).toNat = 10 from rfl, show (7 : Int).toNat = 7 from rfl, show (4843 + 2 * F 1 10).toNat = 4843 + 2 * (F 1 10).toNat by omega, va_up_ne, show (4843 + 2 * F 1 10 + 1).toNat = 4843 + 2 * (F 1 10).toNat + 1 by omega]
theorem s_write (R : RI m S F) (W : Wf (F 1)) {wr : Bool} (hwr : F 0 23 = if wr = true then 1 else 0) {l b p : Int} (hl : 0 ≤ l ∧ l < 12) (hb : 0 ≤ b ∧ b < 5) : f_X12_write (m : Int) l b p (rS m S F) = some (0, rA m S F (if wr = true then bookA (F 1) l b p else F 1)) := by
  obtain ⟨w0, w1, w2, w3, w4, w7, w8, w9, w10⟩ := W.1
  unfold f_X12_write
  rw [r_g R, hwr]
  cases wr with
  | false =>
    simp only [rA, if_neg (show ¬ false = true by decide), va_id]
    rfl
  | true =>
    simp only [if_pos (show true = true from rfl)]
    rw [if_neg (by decide), r_a R, r_al R (by omega) (by omega), show (10 : Int).toNat = 10 from rfl]
    unfold bookA shB
    by_cases h : F 1 10 = 30
    · simp only [if_pos h]
      have W2 : Wf (va_up (fillI (F 1) 4843 (fun j => F 1 (4845 + j)) 58) 10 29) := Wf_ext W (fun k h1 h2 => by rw [va_up_ne _ _ h2, fillI_out (by omega)]) (by rw [va_up_self]; omega)
      have e7 : va_up (fillI (F 1) 4843 (fun j => F 1 (4845 + j)) 58) 10 29 7 = F 1 7 := by rw [va_up_ne _ _ (by decide), fillI_out (by omega)]
      have fin := s_write71 (rU R (va_up (fillI (F 1) 4843 (fun j => F 1 (4845 + j)) 58) 10 29)) (by rw [va_up_self]; exact W2) (by rw [va_up_self, va_up_self]; omega) (l := l) (b := b) (p := p) hl hb
      simp only [rA, va_up_self, va_uu, e7] at fin
      simp only [rA, va_up_self]
      have h9 := lp (z := fun _ _ _ _ _ _ => none) (s := fun r => f_X12_write_b23B r) (fun (r : Int → Int → Int → Int → Int → fK) i => r (m : Int) l b p ((2 + i : Nat) : Int) (rA m S F (fillI (F 1) 4843 (fun j => F 1 (4845 + j)) i))) (N := 58) (res := f_X12_write_b71 (m : Int) l b p (rS m S (va_up F 1 (va_up (fillI (F 1) 4843 (fun j => F 1 (4845 + j)) 58) 10 29)))) ?_ ?_ jN 0 (by omega) (by unfold jN; omega)
      · rw [fin] at h9
        simp only [rA, fillI_0, va_id] at h9
        exact h9
      · intro r i hi ih
        show f_X12_write_b23B r _ _ _ _ _ _ = _
        unfold f_X12_write_b23B
        rw [if_neg (by omega)]
        simp (disch := first | omega | exact R | exact rU R _) only [r_a, r_al, r_st, va_up_self, va_uu, w32_of, flet_eq, show (4843 + ((2 + i : Nat) : Int)).toNat = 4845 + i by omega, show (4843 + ((2 + i : Nat) : Int) - 2).toNat = 4843 + i by omega, show ((2 + i : Nat) : Int) + 1 = ((2 + (i + 1) : Nat) : Int) by omega]
        rw [fillI_step (F 1) 4843 (fun j => F 1 (4845 + j)) i (by rw [fillI_out (by omega)]) rfl]
        exact ih
      · intro r
        show f_X12_write_b23B r _ _ _ _ _ _ = _
        unfold f_X12_write_b23B
        rw [if_pos (by omega)]
        simp (disch := first | omega | exact R | exact rU R _) only [r_a, r_al, r_st, va_up_self, va_uu, show (10 : Int).toNat = 10 from rfl]
        rw [fillI_out (by omega), h]
        rfl
    · simp only [if_neg h]
      exact s_write71 R W (by omega) hl hb
end RS2
