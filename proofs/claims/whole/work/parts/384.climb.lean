-- climb, cut
section CL
variable {x : Nat}
def nbr (e : Nat → Nat) (s b : Nat) : Nat → Nat
  | 0 => b
  | k + 1 => nbr e s b k ||| (if s.testBit k then e k else 0)
theorem nbr_s (e : Nat → Nat) (s b : Nat) : ∀ k, nbr e s b k = b ||| nbr e s 0 k
  | 0 => (Nat.or_zero b).symm
  | k + 1 => by
    show nbr e s b k ||| _ = b ||| (nbr e s 0 k ||| _)
    rw [nbr_s e s b k, Nat.or_assoc]
theorem nbr_lt {e : Nat → Nat} {s b : Nat} (hb : b < 64) : ∀ k, (∀ i, i < k → e i < 64) → nbr e s b k < 64
  | 0, _ => hb
  | k + 1, h => by
    have h1 := nbr_lt (e := e) (s := s) hb k (fun i hi => h i (by omega))
    have h2 := h k (by omega)
    show nbr e s b k ||| (if s.testBit k then e k else 0) < 64
    refine Nat.or_lt_two_pow (n := 6) h1 ?_
    split
    · exact h2
    · decide
def bsd (a : Nat → Int) (f : Nat) : Nat := (a (141 + f)).toNat
theorem bsd_b {a : Nat → Int} (W : stOK a) {f : Nat} (hf : f < 6) : bsd a f < 64 ∧ a (141 + f) = ((bsd a f : Nat) : Int) := by
  have := (W f hf).1
  unfold bsd
  omega
theorem bit01 {s k : Nat} (hs : s < 64) (hk : k < 32) {α : Sort _} {u v : α} : (if iand32 (ishr32 (s : Int) (k : Int)) 1 = 0 then u else v) = if s.testBit k = true then v else u := by
  rw [bit_n (by omega) hk]
  by_cases h : s.testBit k = true
  · rw [if_pos h, if_pos h, if_neg (by decide)]
  · rw [if_neg h, if_neg h, if_pos rfl]
theorem c_beside {S : jSt} {C : Nat → Nat → Int} {a : Nat → Int} (I : CI x S C) (X : TdX a C 1) (W : stOK a) {s : Nat} (hs : s < 64) : f_X7_besideAny ((x + 10 : Nat) : Int) (s : Int) (cS x S C) = some (((nbr (bsd a) s 0 6 : Nat) : Int), cS x S C) := by
  unfold f_X7_besideAny f_X7_besideAny_b4
  refine lp (fun (r : Int → Int → Int → Int → fK) i => r ((x + 10 : Nat) : Int) (s : Int) ((nbr (bsd a) s 0 i : Nat) : Int) (i : Int) (cS x S C)) (N := 6) ?_ ?_ jN 0 (by omega) (by unfold jN; omega)
  · intro r i hi hr
    show f_X7_besideAny_b4B r _ _ _ _ _ = _
    unfold f_X7_besideAny_b4B f_X7_besideAny_b27
    obtain ⟨b1, b2⟩ := bsd_b W hi
    have e : C 11 i = ((bsd a i : Nat) : Int) := by rw [← b2]; exact X.2.2.2.1 i hi
    have n1 := nbr_lt (e := bsd a) (s := s) (b := 0) (by omega) i (fun j hj => (bsd_b W (by omega)).1)
    have nn : nbr (bsd a) s 0 (i + 1) = nbr (bsd a) s 0 i ||| (if s.testBit i then bsd a i else 0) := rfl
    rw [if_neg (by omega), bit01 hs (by omega)]
    simp only [flet_eq]
    rw [w32_of (z := (i : Int) + 1) (by omega) (by omega), zs]
    rw [nn] at hr
    by_cases h : s.testBit i = true
    · rw [if_pos h, cr10_0' I, al_11 I (by omega) (by omega), toNat_z, e, ior_n (by omega) (by omega)]
      rw [if_pos h] at hr
      exact hr
    · rw [if_neg h]
      rw [if_neg h, Nat.or_zero] at hr
      exact hr
  · intro r
    show f_X7_besideAny_b4B r _ _ _ _ _ = _
    unfold f_X7_besideAny_b4B
    rw [if_pos (by omega)]
theorem s_hasN {m : Nat} {S : jSt} {F : Nat → Nat → Int} {s k : Nat} (hs : s < 64) (hk : k < 32) : f_X12_has (s : Int) (k : Int) (rS m S F) = some (b01 (s.testBit k = true), rS m S F) := s_has (by omega) hk _
theorem s_oneOn {m : Nat} {S : jSt} {F : Nat → Nat → Int} (R : RI m S F) (W : stOK (F 1)) {s : Nat} (hs : s < 64) : f_X12_oneOn (m : Int) (s : Int) (rS m S F) = some (((s ||| nbr (bsd (F 1)) s 0 6 : Nat) : Int), rS m S F) := by
  rw [← nbr_s]
  unfold f_X12_oneOn f_X12_oneOn_b4
  refine lp (fun (r : Int → Int → Int → Int → fK) i => r (m : Int) (s : Int) ((nbr (bsd (F 1)) s s i : Nat) : Int) (i : Int) (rS m S F)) (N := 6) ?_ ?_ jN 0 (by omega) (by unfold jN; omega)
  · intro r i hi hr
    show f_X12_oneOn_b4B r _ _ _ _ _ = _
    unfold f_X12_oneOn_b4B f_X12_oneOn_b32
    obtain ⟨b1, b2⟩ := bsd_b W hi
    have n1 := nbr_lt (e := bsd (F 1)) (s := s) (b := s) hs i (fun j hj => (bsd_b W (by omega)).1)
    have nn : nbr (bsd (F 1)) s s (i + 1) = nbr (bsd (F 1)) s s i ||| (if s.testBit i then bsd (F 1) i else 0) := rfl
    rw [if_neg (by omega), s_hasN hs (by omega), fcall_some, if_b01]
    simp only [flet_eq]
    rw [w32_of (z := (i : Int) + 1) (by omega) (by omega), zs]
    rw [nn] at hr
    by_cases h : s.testBit i = true
    · rw [if_pos h, r_a R, w32_of (by omega) (by omega), r_al R (by omega) (by omega), show (141 + (i : Int)).toNat = 141 + i by omega, b2, ior_n (by omega) (by omega)]
      rw [if_pos h] at hr
      exact hr
    · have := ior_n (a := nbr (bsd (F 1)) s s i) (b := 0) (by omega) (by omega)
      rw [if_neg h, show ior32 ((nbr (bsd (F 1)) s s i : Nat) : Int) 0 = _ from this]
      rw [if_neg h] at hr
      exact hr
  · intro r
    show f_X12_oneOn_b4B r _ _ _ _ _ = _
    unfold f_X12_oneOn_b4B
    rw [if_pos (by omega)]
def clb (e : Nat → Nat) (g : Nat) : Nat → Nat → Nat → Int
  | 0, _, _ => -1
  | n + 1, s, i => if s.testBit g = true then (i : Int) else clb e g n (s ||| nbr e s 0 6) (i + 1)
theorem g_climb (a b : Int) : Good x (f_X11_climb (x : Int) a b) (f_X12_climb ((x + 426 : Nat) : Int) a b) := Good_q (fun Z C F V h H => by
  have I := H.1
  have X := h.2.1.2.1
  have st := h.2.1.2.2.1.2.2.2.1
  by_cases hn : (0 ≤ a ∧ a ≤ 5) ∧ 0 ≤ b ∧ b ≤ 5
  · obtain ⟨f, rfl⟩ : ∃ k : Nat, a = (k : Int) := ⟨a.toNat, by omega⟩
    obtain ⟨g, rfl⟩ : ∃ k : Nat, b = (k : Int) := ⟨b.toNat, by omega⟩
    have hf : f < 6 := by omega
    have hg : g < 6 := by omega
    have p2 : 2 ^ f < 64 := Nat.pow_lt_pow_right (by decide) (show f < 6 from hf)
    have nx : ∀ s, s < 64 → s ||| nbr (bsd (F 1)) s 0 6 < 64 := fun s hs => Nat.or_lt_two_pow (n := 6) hs (nbr_lt (by omega) 6 (fun i hi => (bsd_b st hi).1))
    refine ⟨clb (bsd (F 1)) g 6 (2 ^ f) 0, ?_, fun S2 hS R2 => ?_⟩
    · unfold f_X11_climb f_X7_fewest f_X7_fewest_b7
      rw [s_within, fcall_some, if_b01, if_pos hn.1, s_within, fcall_some, if_b01, if_pos hn.2, cr0_0 I, cr1_14 I, c_v I (i := 10) (by decide) rfl, ishl_n (by omega), flet_eq]
      have key := lpe (z := fun _ _ _ _ _ => none) (s := fun r => f_X7_fewest_b7B r) (fun (r : Int → Int → Int → Int → fK) i (s : Nat) => r ((x + 10 : Nat) : Int) (g : Int) (s : Int) (i : Int) (cS x (gS (x + 426) 12 Z F) C)) (fun i s => s < 64 ∧ clb (bsd (F 1)) g (6 - i) s i = clb (bsd (F 1)) g 6 (2 ^ f) 0) (fun r => r = some (clb (bsd (F 1)) g 6 (2 ^ f) 0, cS x (gS (x + 426) 12 Z F) C)) (N := 6) ?_ ?_ jN 0 (2 ^ f) (by omega) (by unfold jN; omega) ⟨p2, rfl⟩
      · exact (congrArg (fun o => fcall o (fun v7 S8 => some (v7, S8))) key).trans (fcall_some _ _ _)
      · intro r i s hi hinv ih
        obtain ⟨hs, hc⟩ := hinv
        show f_X7_fewest_b7B r _ _ _ _ _ = _
        unfold f_X7_fewest_b7B
        rw [show 6 - i = (6 - (i + 1)) + 1 by omega, clb] at hc
        rw [if_neg (by omega), bit01 hs (by omega)]
        by_cases hb : s.testBit g = true
        · rw [if_pos hb]
          rw [if_pos hb] at hc
          rw [hc]
        · rw [if_neg hb] at hc
          rw [if_neg hb, c_v I (i := 10) (by decide) rfl, c_beside I X st hs, fcall_some, flet_eq, flet_eq, w32_of (by omega) (by omega), zs, ior_n (by omega) (by have := nx s hs; have := nbr_lt (e := bsd (F 1)) (s := s) (b := 0) (by omega) 6 (fun i hi => (bsd_b st hi).1); omega)]
          exact ih _ ⟨nx s hs, hc⟩
      · intro r s hinv
        obtain ⟨hs, hc⟩ := hinv
        show f_X7_fewest_b7B r _ _ _ _ _ = _
        unfold f_X7_fewest_b7B
        rw [if_pos (by omega), ← hc]
        rfl
    · have R := R2.1
      unfold f_X12_climb f_X12_climb_b23
      rw [s_isFloor, fcall_some, if_b01, if_pos hn.1, s_isFloor, fcall_some, if_b01, if_pos hn.2, ishl_n (by omega), flet_eq]
      refine lpe (z := fun _ _ _ _ _ => none) (s := fun r => f_X12_climb_b23B r) (fun (r : Int → Int → Int → Int → fK) i (s : Nat) => r ((x + 426 : Nat) : Int) (g : Int) (s : Int) (i : Int) (rS (x + 426) S2 F)) (fun i s => s < 64 ∧ clb (bsd (F 1)) g (6 - i) s i = clb (bsd (F 1)) g 6 (2 ^ f) 0) (fun r => r = some (clb (bsd (F 1)) g 6 (2 ^ f) 0, rS (x + 426) S2 F)) (N := 6) ?_ ?_ jN 0 (2 ^ f) (by omega) (by unfold jN; omega) ⟨p2, rfl⟩
      · intro r i s hi hinv ih
        obtain ⟨hs, hc⟩ := hinv
        show f_X12_climb_b23B r _ _ _ _ _ = _
        unfold f_X12_climb_b23B
        rw [show 6 - i = (6 - (i + 1)) + 1 by omega, clb] at hc
        rw [if_neg (by omega), s_hasN hs (by omega), fcall_some, if_b01]
        by_cases hb : s.testBit g = true
        · rw [if_pos hb]
          rw [if_pos hb] at hc
          rw [hc]
        · rw [if_neg hb] at hc
          rw [if_neg hb, r_cv R, s_oneOn R st hs, fcall_some, flet_eq, w32_of (by omega) (by omega), zs]
          exact ih _ ⟨nx s hs, hc⟩
      · intro r s hinv
        obtain ⟨hs, hc⟩ := hinv
        show f_X12_climb_b23B r _ _ _ _ _ = _
        unfold f_X12_climb_b23B
        rw [if_pos (by omega), ← hc]
        rfl
  · refine ⟨-1, ?_, fun S2 hS R2 => ?_⟩
    · unfold f_X11_climb f_X11_climb_b18
      rw [s_within, fcall_some, if_b01]
      by_cases h1 : 0 ≤ a ∧ a ≤ 5
      · rw [if_pos h1, s_within, fcall_some, if_b01, if_neg (fun z => hn ⟨h1, z⟩)]
      · rw [if_neg h1]
    · unfold f_X12_climb f_X12_climb_b14
      rw [s_isFloor, fcall_some, if_b01]
      by_cases h1 : 0 ≤ a ∧ a ≤ 5
      · rw [if_pos h1, s_isFloor, fcall_some, if_b01, if_neg (fun z => hn ⟨h1, z⟩)]
      · rw [if_neg h1])
end CL
