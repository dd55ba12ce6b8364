-- the reference's deeds
def RK (m : Nat) (S : jSt) (F F' : Nat → Nat → Int) (a' : Nat → Int) : Prop := RI m S F' ∧ F' 1 = a' ∧ (∀ i, 2 ≤ i → i ≤ 4 → F' i = F i) ∧ ∀ k, (k = 4 ∨ k = 5 ∨ k = 6 ∨ k = 23) → F' 0 k = F 0 k
theorem fcv_k {S T : jSt} {b : Int} {ci : Nat} {o : Option (Int × jSt)} {g : jSt → Option (Int × jSt)} (h : fcallv S b ci o (fun _ S2 => fcallv S2 b ci (g S2) (fun _ S4 => some (0, S4))) = some (0, T)) (K : jSt → Option (Int × jSt)) : fcallv S b ci o (fun _ S2 => fcallv S2 b ci (g S2) (fun _ S4 => K S4)) = K T := by
  unfold fcallv at h ⊢
  by_cases h1 : jty S b = (0, ci)
  · rw [if_pos h1] at h ⊢
    cases o with
    | none => cases h
    | some p =>
      obtain ⟨r, S2⟩ := p
      rw [fcall_some] at h ⊢
      by_cases h2 : jty S2 b = (0, ci)
      · rw [if_pos h2] at h ⊢
        cases hg : g S2 with
        | none => rw [hg] at h; cases h
        | some q =>
          obtain ⟨r2, S4⟩ := q
          rw [hg, fcall_some] at h
          rw [fcall_some]
          have e : S4 = T := by
            have := Option.some.inj h
            exact congrArg Prod.snd this
          rw [e]
      · rw [if_neg h2] at h; cases h
  · rw [if_neg h1] at h; cases h
theorem Wf_keep {a : Nat → Int} (W : Wf a) : Wf (keepA a) := by
  have w4 := W.1.2.2.2.2.1
  have w10 := W.1.2.2.2.2.2.2.2.2
  have k1 : Wf (va_up a 4 (keepA a 4)) := Wf_steps W (by rw [keepA_4 w4]; split <;> omega)
  refine Wf_ext k1 (fun k hk h10 => ?_) (by rw [keepA_lo (by omega) (by omega) w4]; exact w10)
  by_cases e : k = 4
  · rw [e, va_up_self]
  · rw [va_up_ne _ _ e, keepA_lo (by omega) e w4]
section DF
variable {m : Nat} {S : jSt} {V : LwV} {F : Nat → Nat → Int}
theorem RK_r (R : RI m S F) : RK m S F F (F 1) := ⟨R, rfl, fun _ _ _ => rfl, fun _ _ => rfl⟩
theorem RK_t {F1 F2 : Nat → Nat → Int} {a1 a2 : Nat → Int} (h1 : RK m S F F1 a1) (h2 : RK m S F1 F2 a2) : RK m S F F2 a2 := ⟨h2.1, h2.2.1, fun i q1 q2 => (h2.2.2.1 i q1 q2).trans (h1.2.2.1 i q1 q2), fun k hk => (h2.2.2.2 k hk).trans (h1.2.2.2 k hk)⟩
theorem RE_K {F' : Nat → Nat → Int} {a' : Nat → Int} {c : Int} (h : RE m S V F F' a' c) : RK m S F F' a' := ⟨h.1.1, h.2.1, fun i q1 q2 => h.2.2.2.2 i (by omega) (by omega) (by omega) (by omega) (by omega), fun k hk => h.2.2.2.1 k (by omega)⟩
theorem RK_q {F' : Nat → Nat → Int} (R : RI m S F') (hf : ∀ i, i ≠ 6 → i ≠ 7 → i ≠ 8 → F' i = F i) : RK m S F F' (F 1) := ⟨R, hf 1 (by omega) (by omega) (by omega), fun i q1 q2 => hf i (by omega) (by omega) (by omega), fun k hk => by rw [hf 0 (by omega) (by omega) (by omega)]⟩
theorem RK_a {a' : Nat → Int} (R : RI m S F) : RK m S F (va_up F 1 a') a' := ⟨rU R a', va_up_self _ _ _, fun i q1 q2 => va_up_ne _ _ (by omega), fun k hk => by rw [va_up_ne _ _ (by omega)]⟩
theorem RE_keep (h : RR m S V F) : RE m S V F (va_up F 1 (keepA (F 1))) (keepA (F 1)) 0 := RE_a h (Wf_keep h.2.1) (keepA_lo (by omega) (by omega) h.2.1.1.2.2.2.2.1)
theorem s_sell (h : RR m S V F) (hwr : F 0 23 = 1) (l : Int) : ∃ F', f_X12_sell (m : Int) l (rS m S F) = some (sellN (F 1) V l, rS m S F') ∧ RK m S F F' (sellA (F 1) V l) := by
  have W := h.2.1
  obtain ⟨w0, w1, w2, w3, w4, w7, w8, w9, w10⟩ := W.1
  unfold f_X12_sell sellN sellA
  rw [r_cv h.1, s_canSell h.1 W.1, fcall_some, bb_b01]
  show ∃ F', (if bb (canSellP (F 1) l) = 0 then _ else _) = _ ∧ _
  by_cases q : bb (canSellP (F 1) l) = 0
  · rw [if_pos q, if_pos q, if_pos q]
    exact ⟨F, rfl, RK_r h.1⟩
  · rw [if_neg q, if_neg q, if_neg q]
    obtain ⟨c1, c2, c3⟩ := of_bb q
    obtain ⟨n, rfl⟩ : ∃ n : Nat, l = (n : Int) := ⟨l.toNat, by omega⟩
    rw [toNat_z] at c2 ⊢
    have k1 := RE_keep h
    have e1 : va_up F 1 (keepA (F 1)) 1 = keepA (F 1) := va_up_self _ _ _
    obtain ⟨F2, v2, k2⟩ := s_sellNow (wr := true) k1.1 (by rw [va_up_ne _ _ (by decide), hwr]; rfl) (l := n) (by rw [e1, keepA_lo (by omega) (by omega) w4]; exact c1.2)
    rw [e1] at v2 k2
    rw [r_cv h.1, s_keep h.1 w4, fcall_some, r_cv k1.1.1, v2, fcall_some]
    exact ⟨F2, rfl, RK_t (RE_K k1) (RE_K k2)⟩
theorem s_carry (h : RR m S V F) (l : Int) : ∃ F', f_X12_carry (m : Int) l (rS m S F) = some (bb (canCarryP (F 1) l), rS m S F') ∧ RK m S F F' (carrA (F 1) l) := by
  have W := h.2.1
  obtain ⟨w0, w1, w2, w3, w4, w7, w8, w9, w10⟩ := W.1
  unfold f_X12_carry carrA
  rw [r_cv h.1, s_canCarry h.1 W.1, fcall_some]
  by_cases q : bb (canCarryP (F 1) l) = 0
  · rw [if_pos q, if_pos q, q]
    exact ⟨F, rfl, RK_r h.1⟩
  · rw [if_neg q, if_neg q]
    have hc := of_bb q
    rw [bb_t hc]
    obtain ⟨c1, c2, c3, c4⟩ := hc
    obtain ⟨n, rfl⟩ : ∃ n : Nat, l = (n : Int) := ⟨l.toNat, by omega⟩
    rw [toNat_z] at c4 ⊢
    have k1 := RE_keep h
    have wl := W.2.1 n c1.2
    rw [r_cv h.1, s_keep h.1 w4, fcall_some, r_cv k1.1.1, s_get k1.1.1 (by omega) (by omega) (by omega) (by omega), fcall_some, r_cv k1.1.1, s_put k1.1.1 (by omega) (by omega) (by omega) (by omega), fcall_some, va_up_self, va_uu, toNat_z, show 11 + 5 * n + (0 : Int).toNat = 11 + 5 * n from rfl, keepA_lo (by omega) (by omega) w4, w32_of (by omega) (by omega)]
    exact ⟨_, rfl, RK_a h.1⟩
theorem s_burn (h : RR m S V F) (l : Int) : ∃ F', f_X12_burn (m : Int) l (rS m S F) = some (bb (canBurnP (F 1) l), rS m S F') ∧ RK m S F F' (burnA (F 1) l) := by
  have W := h.2.1
  obtain ⟨w0, w1, w2, w3, w4, w7, w8, w9, w10⟩ := W.1
  unfold f_X12_burn burnA
  rw [r_cv h.1, s_canBurn h.1 W.1, fcall_some]
  by_cases q : bb (canBurnP (F 1) l) = 0
  · rw [if_pos q, if_pos q, q]
    exact ⟨F, rfl, RK_r h.1⟩
  · rw [if_neg q, if_neg q]
    have hc := of_bb q
    rw [bb_t hc]
    obtain ⟨c1, c2⟩ := hc
    obtain ⟨n, rfl⟩ : ∃ n : Nat, l = (n : Int) := ⟨l.toNat, by omega⟩
    rw [toNat_z]
    have k1 := RE_keep h
    rw [r_cv h.1, s_keep h.1 w4, fcall_some, r_cv k1.1.1, s_put k1.1.1 (by omega) (by omega) (by omega) (by omega), fcall_some, va_up_self, va_uu, toNat_z, show 11 + 5 * n + (1 : Int).toNat = 12 + 5 * n by omega]
    exact ⟨_, rfl, RK_a h.1⟩
theorem s_buy (h : RR m S V F) (l p : Int) : ∃ F', f_X12_buy (m : Int) l p (rS m S F) = some (bb (canBuyP (F 1) l p), rS m S F') ∧ RK m S F F' (buyD (F 1) l p) := by
  have W := h.2.1
  obtain ⟨w0, w1, w2, w3, w4, w7, w8, w9, w10⟩ := W.1
  unfold f_X12_buy buyD
  rw [r_cv h.1, s_canBuy h.1 W, fcall_some]
  by_cases q : bb (canBuyP (F 1) l p) = 0
  · rw [if_pos q, if_pos q, q]
    exact ⟨F, rfl, RK_r h.1⟩
  · rw [if_neg q, if_neg q]
    have hc := of_bb q
    rw [bb_t hc]
    have hk := canBuy_k w4 W hc
    obtain ⟨c1, _⟩ := hc
    obtain ⟨n, rfl⟩ : ∃ n : Nat, l = (n : Int) := ⟨l.toNat, by omega⟩
    rw [toNat_z]
    have k1 := RE_keep h
    have e1 : va_up F 1 (keepA (F 1)) 1 = keepA (F 1) := va_up_self _ _ _
    rw [r_cv h.1, s_keep h.1 w4, fcall_some, r_cv k1.1.1, s_buyNow k1.1 (l := n) (p := p) (by rw [e1]; exact hk), fcall_some, e1]
    exact ⟨_, rfl, RK_t (RE_K k1) (RK_a k1.1.1)⟩
theorem s_arePassed (h : RR m S V F) (hwr : F 0 23 = 1) {n : Nat} (hn : n ≤ 60) : ∃ F', f_X12_arePassed (m : Int) (n : Int) (rS m S F) = some (b01 (F 1 7 + n ≤ 9999), rS m S F') ∧ RK m S F F' (wkA V (F 1) (if F 1 7 + n ≤ 9999 then n else (9999 - F 1 7).toNat)) ∧ (F 1 7 + n ≤ 9999 → F' 0 24 = wkN V (F 1) n) := by
  have W := h.2.1
  obtain ⟨w0, w1, w2, w3, w4, w7, w8, w9, w10⟩ := W.1
  unfold f_X12_arePassed
  rw [r_p h.1]
  have R0 : RI m S (va_up F 0 (va_up (F 0) 24 0)) := RI_up0 h.1 (by decide)
  have hN : (if F 1 7 + n ≤ 9999 then n else (9999 - F 1 7).toNat) ≤ 60 ∧ F 1 7 + (if F 1 7 + n ≤ 9999 then n else (9999 - F 1 7).toNat : Nat) ≤ 9999 ∧ (if F 1 7 + n ≤ 9999 then n else (9999 - F 1 7).toNat) ≤ n ∧ (¬ F 1 7 + n ≤ 9999 → (if F 1 7 + n ≤ 9999 then n else (9999 - F 1 7).toNat) < n ∧ F 1 7 + (if F 1 7 + n ≤ 9999 then n else (9999 - F 1 7).toNat : Nat) = 9999) ∧ (F 1 7 + n ≤ 9999 → (if F 1 7 + n ≤ 9999 then n else (9999 - F 1 7).toNat) = n) := by
    split <;> omega
  generalize (if F 1 7 + n ≤ 9999 then n else (9999 - F 1 7).toNat) = N at hN ⊢
  obtain ⟨n1, n2, n3, n4, n5⟩ := hN
  refine lpe (fun (r : Int → Int → Int → fK) i (c : Nat → Nat → Int) => r (m : Int) (n : Int) (i : Int) (rS m S c)) (fun i c => (RR m S V c ∧ RK m S F c (wkA V (F 1) i)) ∧ (c 1 7 = F 1 7 + i) ∧ (c 0 24 = wkN V (F 1) i ∧ 0 ≤ wkN V (F 1) i ∧ wkN V (F 1) i ≤ 12 * i)) (fun o => ∃ F', o = some (b01 (F 1 7 + n ≤ 9999), rS m S F') ∧ RK m S F F' (wkA V (F 1) N) ∧ (F 1 7 + n ≤ 9999 → F' 0 24 = wkN V (F 1) n)) (N := N) ?_ ?_ jN 0 (va_up F 0 (va_up (F 0) 24 0)) (by omega) (by unfold jN; omega) ⟨⟨⟨R0, by rw [va_up_ne _ _ (by decide)]; exact W, by rw [va_up_ne _ _ (by decide), va_up_ne _ _ (by decide)]; exact h.2.2⟩, ⟨R0, va_up_ne _ _ (by decide), fun i q1 q2 => va_up_ne _ _ (by omega), fun k hk => by rw [va_up_self, va_up_ne _ _ (by omega)]⟩⟩, by rw [va_up_ne _ _ (by decide)]; omega, by rw [va_up_self, va_up_self]; rfl, by show (0 : Int) ≤ 0; omega, by show (0 : Int) ≤ 12 * 0; omega⟩
  · intro r i c hi ⟨⟨J, K⟩, e7, e24, b0, b1⟩ ih
    show ∃ F', f_X12_arePassed_b7B r _ _ _ _ = _ ∧ _
    unfold f_X12_arePassed_b7B
    have c4 := J.2.1.1.2.2.2.2.1
    have k1 := RE_keep J
    have e1 : va_up c 1 (keepA (c 1)) 1 = keepA (c 1) := va_up_self _ _ _
    have k0 : ∀ k, (k < 193 ∧ k ≠ 4) → keepA (c 1) k = c 1 k := fun k hk => keepA_lo (by omega) hk.2 c4
    obtain ⟨F2, v2, k2⟩ := s_pass (wr := true) k1.1 (by rw [va_up_ne _ _ (by decide), K.2.2.2 23 (by omega), hwr]; rfl) (by rw [e1, k0 7 (by omega)]; omega)
    rw [e1] at k2
    have pn : 0 ≤ pasN true V (keepA (c 1)) ∧ pasN true V (keepA (c 1)) ≤ 12 := by
      have := pasS_n true V (sfl (keepA (c 1))) (keepA (c 1)) (keepA (c 1) 0).toNat
      have c0 := J.2.1.1.1
      rw [k0 0 (by omega)] at this
      unfold pasN
      rw [k0 0 (by omega)]
      omega
    rw [if_neg (by omega), r_a J.1, r_al J.1 (by omega) (by omega), show (7 : Int).toNat = 7 from rfl, if_neg (by omega), r_cv J.1, s_keep J.1 c4, fcall_some, r_cv k1.1.1, v2, fcall_some]
    simp only [flet_eq]
    rw [w32_of (by omega) (by omega), zs]
    have ew : c 1 = wkA V (F 1) i := K.2.1
    have e24' : F2 0 24 = wkN V (F 1) i + pasN true V (keepA (c 1)) := by
      rw [k2.2.2.1 (by rw [va_up_ne _ _ (by decide), e24]; exact b0) (by rw [va_up_ne _ _ (by decide), e24]; omega), va_up_ne _ _ (by decide), e24]
    refine ih F2 ⟨⟨k2.1, ?_⟩, ?_, ?_, ?_, ?_⟩
    · have := RK_t K (RK_t (RE_K k1) (RE_K k2))
      rw [ew] at this
      exact this
    · rw [k2.2.1, pasA_7, k0 7 (by omega), e7]; omega
    · rw [e24', ew]; rfl
    · rw [ew] at pn
      show 0 ≤ wkN V (F 1) i + pasN true V (keepA (wkA V (F 1) i)); omega
    · rw [ew] at pn
      show wkN V (F 1) i + pasN true V (keepA (wkA V (F 1) i)) ≤ _; omega
  · intro r c ⟨⟨J, K⟩, e7, e24, b0, b1⟩
    show ∃ F', f_X12_arePassed_b7B r _ _ _ _ = _ ∧ _
    unfold f_X12_arePassed_b7B b01
    by_cases q : F 1 7 + n ≤ 9999
    · have := n5 q
      rw [if_pos (by omega), if_pos q]
      exact ⟨c, rfl, K, fun _ => by rw [e24, this]⟩
    · have := n4 q
      rw [if_neg (by omega), r_a J.1, r_al J.1 (by omega) (by omega), show (7 : Int).toNat = 7 from rfl, if_pos (by omega), if_neg q]
      exact ⟨c, rfl, K, fun z => absurd z q⟩
theorem s_week (h : RR m S V F) (hwr : F 0 23 = 1) (n : Int) : ∃ F', f_X12_week (m : Int) n (rS m S F) = some (weekN V (F 1) n, rS m S F') ∧ RK m S F F' (weekA V (F 1) n) := by
  have W := h.2.1
  obtain ⟨w0, w1, w2, w3, w4, w7, w8, w9, w10⟩ := W.1
  unfold f_X12_week f_X12_week_b40 f_X12_week_b41 weekN weekA
  rw [s_isIn, fcall_some, if_b01]
  by_cases h1 : 1 ≤ n ∧ n ≤ 60
  · rw [if_pos h1, r_a h.1, r_al h.1 (by omega) (by omega), show (7 : Int).toNat = 7 from rfl, w32_of (by omega) (by omega)]
    by_cases h2 : F 1 7 + n ≤ 9999
    · obtain ⟨k, rfl⟩ : ∃ k : Nat, n = (k : Int) := ⟨n.toNat, by omega⟩
      obtain ⟨F', v, q1, q2⟩ := s_arePassed h hwr (n := k) (by omega)
      rw [if_pos h2] at q1
      rw [if_neg (by omega), if_pos ⟨h1, h2⟩, if_pos ⟨h1, h2⟩, r_cv h.1, v, fcall_some, if_b01, if_pos h2, r_g q1.1, q2 h2, toNat_z]
      exact ⟨F', rfl, q1⟩
    · rw [if_pos (by omega), if_neg (fun q => h2 q.2), if_neg (fun q => h2 q.2)]
      exact ⟨F, rfl, RK_r h.1⟩
  · rw [if_neg h1, if_neg (fun q => h1 q.1), if_neg (fun q => h1 q.1)]
    exact ⟨F, rfl, RK_r h.1⟩
theorem s_years (h : RR m S V F) (hwr : F 0 23 = 1) (sd n : Int) : ∃ F', f_X12_years (m : Int) sd n (rS m S F) = some (yearsN V (F 1) sd n, rS m S F') ∧ RK m S F F' (yearsA V (F 1) sd n) := by
  have W := h.2.1
  obtain ⟨w0, w1, w2, w3, w4, w7, w8, w9, w10⟩ := W.1
  unfold f_X12_years f_X12_years_b21 yearsN yearsA
  rw [s_isIn, fcall_some, if_b01]
  by_cases h1 : 0 ≤ sd ∧ sd ≤ 9999
  · rw [if_pos h1, s_isIn, fcall_some, if_b01]
    by_cases h2 : 1 ≤ n ∧ n ≤ 40
    · rw [if_pos h2, if_pos ⟨h1, h2⟩, if_pos ⟨h1, h2⟩]
      obtain ⟨k, rfl⟩ : ∃ k : Nat, n = (k : Int) := ⟨n.toNat, by omega⟩
      rw [toNat_z]
      have k1 := RE_keep h
      have e1 : va_up F 1 (keepA (F 1)) 1 = keepA (F 1) := va_up_self _ _ _
      rw [r_cv h.1, s_keep h.1 w4, fcall_some, r_a k1.1.1, w32_of (z := sd * 2) (by omega) (by omega), w32_of (by omega) (by omega), r_st k1.1.1 (by omega) (by omega), show (9 : Int).toNat = 9 from rfl, e1, va_uu]
      unfold yrA
      have Wb : Wf (va_up (keepA (F 1)) 9 (sd * 2 + 211)) := Wf_x (Wf_keep W) (by omega)
      have b2 : va_up (keepA (F 1)) 9 (sd * 2 + 211) 2 = F 1 2 := by rw [va_up_ne _ _ (by decide), keepA_lo (by omega) (by omega) w4]
      generalize va_up (keepA (F 1)) 9 (sd * 2 + 211) = b at *
      have kb := RE_a h Wb b2
      refine lpe (fun (r : Int → Int → Int → fK) i (c : Nat → Nat → Int) => r (m : Int) (k : Int) (i : Int) (rS m S c)) (fun i c => RR m S V c ∧ RK m S F c (yrS true V b i)) (fun o => ∃ F', o = some (yrS true V b k 7, rS m S F') ∧ RK m S F F' (yrS true V b k)) (N := k) ?_ ?_ jN 0 (va_up F 1 b) (by omega) (by unfold jN; omega) ⟨kb.1, RE_K kb⟩
      · intro r i c hi ⟨J, K⟩ ih
        show ∃ F', f_X12_years_b43B r _ _ _ _ = _ ∧ _
        unfold f_X12_years_b43B
        obtain ⟨F2, cc, v2, _, k2⟩ := s_year (wr := true) J (by rw [K.2.2.2 23 (by omega), hwr]; rfl)
        rw [if_neg (by omega), r_a J.1, r_al J.1 (by omega) (by omega), show (9 : Int).toNat = 9 from rfl]
        simp only [flet_eq]
        rw [fcv_k v2 (fun S16 => r (m : Int) (k : Int) (w32 ((i : Int) + 1)) S16), w32_of (by omega) (by omega), zs]
        refine ih F2 ⟨k2.1, ?_⟩
        have := RK_t K (RE_K k2)
        rw [K.2.1] at this
        exact this
      · intro r c ⟨J, K⟩
        show ∃ F', f_X12_years_b43B r _ _ _ _ = _ ∧ _
        unfold f_X12_years_b43B
        rw [if_pos (by omega), r_a J.1, r_al J.1 (by omega) (by omega), show (7 : Int).toNat = 7 from rfl, K.2.1]
        exact ⟨c, rfl, K⟩
    · rw [if_neg h2, if_neg (fun q => h2 q.2), if_neg (fun q => h2 q.2)]
      exact ⟨F, rfl, RK_r h.1⟩
  · rw [if_neg h1, if_neg (fun q => h1 q.1), if_neg (fun q => h1 q.1)]
    exact ⟨F, rfl, RK_r h.1⟩
theorem s_und (R : RI m S F) (W : WfN (F 1)) : ∃ F', f_X12_undo (m : Int) (rS m S F) = some (undN (F 1), rS m S F') ∧ RK m S F F' (undA (F 1)) := by
  obtain ⟨w0, w1, w2, w3, w4, w7, w8, w9, w10⟩ := W
  rw [s_undo R w4 w1 w0]
  unfold undN undA
  by_cases h : F 1 4 = 0
  · rw [if_pos h, if_pos h, if_pos h]
    exact ⟨F, rfl, RK_r R⟩
  · rw [if_neg h, if_neg h, if_neg h]
    exact ⟨_, rfl, RK_a R⟩
end DF
