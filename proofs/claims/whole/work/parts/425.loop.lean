-- the law's loop
section LL
theorem lwc {x : Nat} {Z : jSt} {C F : Nat → Nat → Int} {fc fr : jSt → Option (Int × jSt)} (G : Good x fc fr) (h : INV x Z C F) (K : jSt → Option (Int × jSt)) {P : Option (Int × jSt) → Prop} (hK : ∀ Z' C' F', INV x Z' C' F' → Z'.1 ≤ Z.1 + 5 → Z'.2.1 ≤ Z.2.1 + 500 → P (K (jS x Z' C' F'))) : P (fcallv (jS x Z C F) (x : Int) 11 (fc (jS x Z C F)) (fun v S => fcallv S ((x + 426 : Nat) : Int) 12 (fr S) (fun w S' => if v = w then K S' else some (0, S')))) := by
  obtain ⟨v, Z', C', F', e1, e2, h', b1, b2⟩ := G Z C F h
  have R : RI (x + 426) (gS x 426 Z' C') F := ⟨h'.1.2.1.1, h.1.2.1.2⟩
  have q1 : ∀ k : Int → jSt → Option (Int × jSt), fcallv (jS x Z C F) (x : Int) 11 (fc (jS x Z C F)) k = fcall (fc (jS x Z C F)) k := fun k => cv_0 (CI_g (y := x + 426) (N := 12) (F := F) h.1.1)
  have q2 : ∀ k : Int → jSt → Option (Int × jSt), fcallv (jS x Z' C' F) ((x + 426 : Nat) : Int) 12 (fr (jS x Z' C' F)) k = fcall (fr (jS x Z' C' F)) k := fun k => by
    rw [jS_r]
    exact r_cv R
  rw [q1, e1, fcall_some, q2, e2, fcall_some, if_pos rfl]
  exact hK Z' C' F' h' b1 b2
theorem bq_s {M i z z' k : Nat} (h : z' ≤ z + k) (h2 : z ≤ M + k * i) : z' ≤ M + k * (i + 1) := by
  rw [Nat.mul_add, Nat.mul_one]
  omega
def LwP (B : Nat) (o : Option (Int × jSt)) : Prop := ∃ Se : jSt, o = some (1, Se) ∧ Se.1 ≤ B + 600000 ∧ Se.2.1 ≤ 7302250
theorem law_loop (B L : Nat) (xs : Nat → Int32) (b : Int) (hL : L ≤ 3072) {Z : jSt} {C F : Nat → Nat → Int} (h : INV B Z C F) (hZ : Z.1 ≤ B + 438) {M : Nat} (hM : M ≤ 40000) (hs : Z.2.1 ≤ M) : LwP B (f_L_law_b18 L xs b (B : Int) ((B + 426 : Nat) : Int) 0 (jS B Z C F)) := by
  unfold f_L_law_b18
  have key := lpe (z := fun _ _ _ _ _ => none) (s := fun r => f_L_law_b18B L xs r) (fun (r : Int → Int → Int → Int → fK) i (c : jSt × (Nat → Nat → Int) × (Nat → Nat → Int)) => r b (B : Int) ((B + 426 : Nat) : Int) ((6 * i : Nat) : Int) (jS B c.1 c.2.1 c.2.2)) (fun i c => INV B c.1 c.2.1 c.2.2 ∧ c.1.1 ≤ B + 438 + 5 * i ∧ c.1.2.1 ≤ M + 500 * i) (LwP B) (N := L / 6) ?_ ?_ jN 0 (Z, C, F) (Nat.zero_le _) (by unfold jN; omega) ⟨h, hZ, hs⟩
  · exact key
  · intro r i c hi hinv ih
    obtain ⟨Z, C, F⟩ := c
    obtain ⟨h, hZ, hs⟩ := hinv
    have h : INV B Z C F := h
    have hZ : Z.1 ≤ B + 438 + 5 * i := hZ
    have hs : Z.2.1 ≤ M + 500 * i := hs
    have hK : ∀ Z' C' F', INV B Z' C' F' → Z'.1 ≤ Z.1 + 5 → Z'.2.1 ≤ Z.2.1 + 500 → LwP B (r b (B : Int) ((B + 426 : Nat) : Int) ((6 * (i + 1) : Nat) : Int) (jS B Z' C' F')) := fun Z' C' F' h' b1 b2 => by
      have q1 : Z'.1 ≤ B + 438 + 5 * (i + 1) := bq_s b1 hZ
      have q2 : Z'.2.1 ≤ M + 500 * (i + 1) := bq_s b2 hs
      exact ih (Z', C', F') ⟨h', q1, q2⟩
    show LwP B (f_L_law_b18B L xs r b (B : Int) ((B + 426 : Nat) : Int) ((6 * i : Nat) : Int) (jS B Z C F))
    have s0 : ∀ f : Int → Option (Int × jSt), fsld L xs ((6 * i : Nat) : Int) f = f (xs (6 * i)).toInt := fun f => by
      unfold fsld
      rw [if_pos ⟨by omega, by omega⟩, toNat_z]
    have sk : ∀ (k : Nat) (z : Int), z = (k : Int) → k < 6 → ∀ f : Int → Option (Int × jSt), fsld L xs (w32 (((6 * i : Nat) : Int) + z)) f = f (xs (6 * i + k)).toInt := fun k z hz hk f => by
      subst hz
      rw [w32_of (by omega) (by omega)]
      unfold fsld
      rw [if_pos ⟨by omega, by omega⟩, show (((6 * i : Nat) : Int) + (k : Int)).toNat = 6 * i + k by omega]
    have s1 := sk 1 1 rfl (by omega)
    have s2 := sk 2 2 rfl (by omega)
    have s3 := sk 3 3 rfl (by omega)
    have s4 := sk 4 4 rfl (by omega)
    have s5 := sk 5 5 rfl (by omega)
    have s6 : w32 (((6 * i : Nat) : Int) + 6) = ((6 * (i + 1) : Nat) : Int) := by
      rw [w32_of (by omega) (by omega)]
      omega
    have sL : ∀ f : Int → Option (Int × jSt), fslen L f = f (L : Int) := fun f => by
      unfold fslen
      rw [if_pos (by omega)]
    unfold f_L_law_b18B
    rw [sL, w32_of (by omega) (by omega), if_neg (by omega), s0]
    simp only [f_L_law_b1585, f_L_law_b968, f_L_law_b985, f_L_law_b1035, f_L_law_b1057, f_L_law_b1262, f_L_law_b1284, f_L_law_b1383, f_L_law_b1410, flet_eq, s1, s2, s3, s4, s5, s6]
    generalize (xs (6 * i + 1)).toInt = v1
    generalize (xs (6 * i + 2)).toInt = v2
    generalize (xs (6 * i + 3)).toInt = v3
    generalize (xs (6 * i + 4)).toInt = v4
    generalize (xs (6 * i + 5)).toInt = v5
    generalize iand32 (xs (6 * i)).toInt 63 = cc
    by_cases h0 : cc = 0
    · rw [if_pos h0]
      exact lwc (g_lot v1 v2 v3) (P := LwP B) h (fun S => r b (B : Int) ((B + 426 : Nat) : Int) ((6 * (i + 1) : Nat) : Int) S) hK
    rw [if_neg h0]
    by_cases h1 : cc = 1
    · rw [if_pos h1]
      exact lwc (g_bidder v1) (P := LwP B) h (fun S => r b (B : Int) ((B + 426 : Nat) : Int) ((6 * (i + 1) : Nat) : Int) S) hK
    rw [if_neg h1]
    by_cases h2 : cc = 2
    · rw [if_pos h2]
      exact lwc (g_want v1 v2 v3) (P := LwP B) h (fun S => r b (B : Int) ((B + 426 : Nat) : Int) ((6 * (i + 1) : Nat) : Int) S) hK
    rw [if_neg h2]
    by_cases h3 : cc = 3
    · rw [if_pos h3]
      exact lwc (g_feed v1 v2 v3 v4 v5) (P := LwP B) h (fun S => r b (B : Int) ((B + 426 : Nat) : Int) ((6 * (i + 1) : Nat) : Int) S) hK
    rw [if_neg h3]
    by_cases h4 : cc = 4
    · rw [if_pos h4]
      exact lwc (g_end v1) (P := LwP B) h (fun S => r b (B : Int) ((B + 426 : Nat) : Int) ((6 * (i + 1) : Nat) : Int) S) hK
    rw [if_neg h4]
    by_cases h5 : cc = 5
    · rw [if_pos h5]
      exact lwc g_text (P := LwP B) h (fun S => r b (B : Int) ((B + 426 : Nat) : Int) ((6 * (i + 1) : Nat) : Int) S) hK
    rw [if_neg h5]
    by_cases h6 : cc = 6
    · rw [if_pos h6]
      exact lwc (g_fault v1) (P := LwP B) h (fun S => r b (B : Int) ((B + 426 : Nat) : Int) ((6 * (i + 1) : Nat) : Int) S) hK
    rw [if_neg h6]
    by_cases h7 : cc = 7
    · rw [if_pos h7]
      exact lwc (g_by v1) (P := LwP B) h (fun S => r b (B : Int) ((B + 426 : Nat) : Int) ((6 * (i + 1) : Nat) : Int) S) hK
    rw [if_neg h7]
    by_cases h8 : cc = 8
    · rw [if_pos h8]
      exact lwc (g_sell v1) (P := LwP B) h (fun S => r b (B : Int) ((B + 426 : Nat) : Int) ((6 * (i + 1) : Nat) : Int) S) hK
    rw [if_neg h8]
    by_cases h9 : cc = 9
    · rw [if_pos h9]
      exact lwc (g_carry v1) (P := LwP B) h (fun S => r b (B : Int) ((B + 426 : Nat) : Int) ((6 * (i + 1) : Nat) : Int) S) hK
    rw [if_neg h9]
    by_cases h10 : cc = 10
    · rw [if_pos h10]
      exact lwc (g_burn v1) (P := LwP B) h (fun S => r b (B : Int) ((B + 426 : Nat) : Int) ((6 * (i + 1) : Nat) : Int) S) hK
    rw [if_neg h10]
    by_cases h11 : cc = 11
    · rw [if_pos h11]
      exact lwc (g_buy v1 v2) (P := LwP B) h (fun S => r b (B : Int) ((B + 426 : Nat) : Int) ((6 * (i + 1) : Nat) : Int) S) hK
    rw [if_neg h11]
    by_cases h12 : cc = 12
    · rw [if_pos h12]
      exact lwc (g_week v1) (P := LwP B) h (fun S => r b (B : Int) ((B + 426 : Nat) : Int) ((6 * (i + 1) : Nat) : Int) S) hK
    rw [if_neg h12]
    by_cases h13 : cc = 13
    · rw [if_pos h13]
      exact lwc (g_played v1) (P := LwP B) h (fun S => r b (B : Int) ((B + 426 : Nat) : Int) ((6 * (i + 1) : Nat) : Int) S) hK
    rw [if_neg h13]
    by_cases h14 : cc = 14
    · rw [if_pos h14]
      exact lwc (g_years v1 v2) (P := LwP B) h (fun S => r b (B : Int) ((B + 426 : Nat) : Int) ((6 * (i + 1) : Nat) : Int) S) hK
    rw [if_neg h14]
    by_cases h15 : cc = 15
    · rw [if_pos h15]
      exact lwc g_undo (P := LwP B) h (fun S => r b (B : Int) ((B + 426 : Nat) : Int) ((6 * (i + 1) : Nat) : Int) S) hK
    rw [if_neg h15]
    by_cases h16 : cc = 16
    · rw [if_pos h16]
      exact lwc (g_of v1 v2) (P := LwP B) h (fun S => r b (B : Int) ((B + 426 : Nat) : Int) ((6 * (i + 1) : Nat) : Int) S) hK
    rw [if_neg h16]
    by_cases h17 : cc = 17
    · rw [if_pos h17]
      exact lwc (g_ofBidder v1 v2) (P := LwP B) h (fun S => r b (B : Int) ((B + 426 : Nat) : Int) ((6 * (i + 1) : Nat) : Int) S) hK
    rw [if_neg h17]
    by_cases h18 : cc = 18
    · rw [if_pos h18]
      exact lwc (g_bids v1 v2) (P := LwP B) h (fun S => r b (B : Int) ((B + 426 : Nat) : Int) ((6 * (i + 1) : Nat) : Int) S) hK
    rw [if_neg h18]
    by_cases h19 : cc = 19
    · rw [if_pos h19]
      exact lwc (g_is v1) (P := LwP B) h (fun S => r b (B : Int) ((B + 426 : Nat) : Int) ((6 * (i + 1) : Nat) : Int) S) hK
    rw [if_neg h19]
    by_cases h20 : cc = 20
    · rw [if_pos h20]
      exact lwc (g_book v1 v2) (P := LwP B) h (fun S => r b (B : Int) ((B + 426 : Nat) : Int) ((6 * (i + 1) : Nat) : Int) S) hK
    rw [if_neg h20]
    by_cases h21 : cc = 21
    · rw [if_pos h21]
      exact lwc (g_foretold v1 v2 v3) (P := LwP B) h (fun S => r b (B : Int) ((B + 426 : Nat) : Int) ((6 * (i + 1) : Nat) : Int) S) hK
    rw [if_neg h21]
    by_cases h22 : cc = 22
    · rw [if_pos h22]
      exact lwc (g_order v1 v2) (P := LwP B) h (fun S => r b (B : Int) ((B + 426 : Nat) : Int) ((6 * (i + 1) : Nat) : Int) S) hK
    rw [if_neg h22]
    by_cases h23 : cc = 23
    · rw [if_pos h23]
      exact lwc (g_bundle v1 v2 v3) (P := LwP B) h (fun S => r b (B : Int) ((B + 426 : Nat) : Int) ((6 * (i + 1) : Nat) : Int) S) hK
    rw [if_neg h23]
    by_cases h24 : cc = 24
    · rw [if_pos h24]
      by_cases hv : v1 = 0
      · simp only [if_pos hv]
        exact lwc (g_winners 0) (P := LwP B) h (fun S => r b (B : Int) ((B + 426 : Nat) : Int) ((6 * (i + 1) : Nat) : Int) S) hK
      · simp only [if_neg hv]
        exact lwc (g_winners 1) (P := LwP B) h (fun S => r b (B : Int) ((B + 426 : Nat) : Int) ((6 * (i + 1) : Nat) : Int) S) hK
    rw [if_neg h24]
    by_cases h25 : cc = 25
    · rw [if_pos h25]
      exact lwc (g_pays v1) (P := LwP B) h (fun S => r b (B : Int) ((B + 426 : Nat) : Int) ((6 * (i + 1) : Nat) : Int) S) hK
    rw [if_neg h25]
    by_cases h26 : cc = 26
    · rw [if_pos h26]
      by_cases hv : v2 = 0
      · simp only [if_pos hv]
        exact lwc (g_kept v1 0) (P := LwP B) h (fun S => r b (B : Int) ((B + 426 : Nat) : Int) ((6 * (i + 1) : Nat) : Int) S) hK
      · simp only [if_neg hv]
        exact lwc (g_kept v1 1) (P := LwP B) h (fun S => r b (B : Int) ((B + 426 : Nat) : Int) ((6 * (i + 1) : Nat) : Int) S) hK
    rw [if_neg h26]
    by_cases h27 : cc = 27
    · rw [if_pos h27]
      exact lwc (g_stair v1 v2) (P := LwP B) h (fun S => r b (B : Int) ((B + 426 : Nat) : Int) ((6 * (i + 1) : Nat) : Int) S) hK
    rw [if_neg h27]
    by_cases h28 : cc = 28
    · rw [if_pos h28]
      exact lwc (g_gone v1 v2) (P := LwP B) h (fun S => r b (B : Int) ((B + 426 : Nat) : Int) ((6 * (i + 1) : Nat) : Int) S) hK
    rw [if_neg h28]
    by_cases h29 : cc = 29
    · rw [if_pos h29]
      exact lwc (g_climb v1 v2) (P := LwP B) h (fun S => r b (B : Int) ((B + 426 : Nat) : Int) ((6 * (i + 1) : Nat) : Int) S) hK
    rw [if_neg h29]
    by_cases h30 : cc = 30
    · rw [if_pos h30]
      exact lwc (g_cut v1 v2) (P := LwP B) h (fun S => r b (B : Int) ((B + 426 : Nat) : Int) ((6 * (i + 1) : Nat) : Int) S) hK
    rw [if_neg h30]
    by_cases h31 : cc = 31
    · rw [if_pos h31]
      exact lwc g_bridges (P := LwP B) h (fun S => r b (B : Int) ((B + 426 : Nat) : Int) ((6 * (i + 1) : Nat) : Int) S) hK
    rw [if_neg h31]
    by_cases h32 : cc = 32
    · rw [if_pos h32]
      exact lwc (g_odds v1 v2) (P := LwP B) h (fun S => r b (B : Int) ((B + 426 : Nat) : Int) ((6 * (i + 1) : Nat) : Int) S) hK
    rw [if_neg h32]
    by_cases h33 : cc = 33
    · rw [if_pos h33]
      by_cases hv : v2 = 0
      · simp only [if_pos hv]
        exact lwc (g_leave v1 0) (P := LwP B) h (fun S => r b (B : Int) ((B + 426 : Nat) : Int) ((6 * (i + 1) : Nat) : Int) S) hK
      · simp only [if_neg hv]
        exact lwc (g_leave v1 1) (P := LwP B) h (fun S => r b (B : Int) ((B + 426 : Nat) : Int) ((6 * (i + 1) : Nat) : Int) S) hK
    rw [if_neg h33]
    by_cases h34 : cc = 34
    · rw [if_pos h34]
      exact lwc (g_takes v1 v2) (P := LwP B) h (fun S => r b (B : Int) ((B + 426 : Nat) : Int) ((6 * (i + 1) : Nat) : Int) S) hK
    rw [if_neg h34]
    by_cases h35 : cc = 35
    · rw [if_pos h35]
      exact lwc (g_ash v1 v2) (P := LwP B) h (fun S => r b (B : Int) ((B + 426 : Nat) : Int) ((6 * (i + 1) : Nat) : Int) S) hK
    rw [if_neg h35]
    by_cases h36 : cc = 36
    · rw [if_pos h36]
      by_cases hv : v3 = 0
      · simp only [if_pos hv]
        exact lwc (g_burnt v1 v2 0) (P := LwP B) h (fun S => r b (B : Int) ((B + 426 : Nat) : Int) ((6 * (i + 1) : Nat) : Int) S) hK
      · simp only [if_neg hv]
        exact lwc (g_burnt v1 v2 1) (P := LwP B) h (fun S => r b (B : Int) ((B + 426 : Nat) : Int) ((6 * (i + 1) : Nat) : Int) S) hK
    rw [if_neg h36]
    by_cases h37 : cc = 37
    · rw [if_pos h37]
      exact lwc (g_said v1 v2) (P := LwP B) h (fun S => r b (B : Int) ((B + 426 : Nat) : Int) ((6 * (i + 1) : Nat) : Int) S) hK
    rw [if_neg h37]
    by_cases h38 : cc = 38
    · rw [if_pos h38]
      exact lwc g_whose (P := LwP B) h (fun S => r b (B : Int) ((B + 426 : Nat) : Int) ((6 * (i + 1) : Nat) : Int) S) hK
    rw [if_neg h38]
    by_cases h39 : cc = 39
    · rw [if_pos h39]
      exact lwc g_dearest (P := LwP B) h (fun S => r b (B : Int) ((B + 426 : Nat) : Int) ((6 * (i + 1) : Nat) : Int) S) hK
    rw [if_neg h39]
    by_cases h40 : cc = 40
    · rw [if_pos h40]
      exact lwc (g_left v1) (P := LwP B) h (fun S => r b (B : Int) ((B + 426 : Nat) : Int) ((6 * (i + 1) : Nat) : Int) S) hK
    rw [if_neg h40]
    by_cases h41 : cc = 41
    · rw [if_pos h41]
      exact lwc (g_ledger v1) (P := LwP B) h (fun S => r b (B : Int) ((B + 426 : Nat) : Int) ((6 * (i + 1) : Nat) : Int) S) hK
    rw [if_neg h41]
    by_cases h42 : cc = 42
    · rw [if_pos h42]
      exact lwc g_richest (P := LwP B) h (fun S => r b (B : Int) ((B + 426 : Nat) : Int) ((6 * (i + 1) : Nat) : Int) S) hK
    rw [if_neg h42]
    by_cases h43 : cc = 43
    · rw [if_pos h43]
      exact lwc g_image (P := LwP B) h (fun S => r b (B : Int) ((B + 426 : Nat) : Int) ((6 * (i + 1) : Nat) : Int) S) hK
    rw [if_neg h43]
    by_cases h44 : cc = 44
    · rw [if_pos h44]
      exact lwc g_back (P := LwP B) h (fun S => r b (B : Int) ((B + 426 : Nat) : Int) ((6 * (i + 1) : Nat) : Int) S) hK
    rw [if_neg h44]
    by_cases h45 : cc = 45
    · rw [if_pos h45]
      exact lwc (g_about v1) (P := LwP B) h (fun S => r b (B : Int) ((B + 426 : Nat) : Int) ((6 * (i + 1) : Nat) : Int) S) hK
    rw [if_neg h45]
    exact hK Z C F h (by omega) (by omega)
  · intro r c hinv
    obtain ⟨Z, C, F⟩ := c
    obtain ⟨h, hZ, hs⟩ := hinv
    have hZ : Z.1 ≤ B + 438 + 5 * (L / 6) := hZ
    have hs : Z.2.1 ≤ M + 500 * (L / 6) := hs
    show LwP B (f_L_law_b18B L xs r b (B : Int) ((B + 426 : Nat) : Int) ((6 * (L / 6) : Nat) : Int) (jS B Z C F))
    have sL : ∀ f : Int → Option (Int × jSt), fslen L f = f (L : Int) := fun f => by
      unfold fslen
      rw [if_pos (by omega)]
    unfold f_L_law_b18B
    rw [sL, w32_of (by omega) (by omega), if_pos (by omega)]
    refine ⟨_, rfl, ?_, ?_⟩
    · show Z.1 ≤ _
      omega
    · show Z.2.1 ≤ _
      omega
end LL
