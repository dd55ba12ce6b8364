-- the reference's token by its kind
theorem TkR_end (nu wo v : Int) : TkR 0 nu wo 44 v := by
  refine ⟨fun k' h1 h2 _ => ⟨fun h => by omega, fun h => by omega⟩, fun k' h1 h2 => ?_, fun h => by omega⟩
  have : k' = 30 ∨ k' = 31 ∨ k' = 32 ∨ k' = 33 ∨ k' = 34 ∨ k' = 35 ∨ k' = 36 ∨ k' = 37 ∨ k' = 38 ∨ k' = 39 ∨ k' = 40 ∨ k' = 41 ∨ k' = 42 ∨ k' = 43 ∨ k' = 44 := by omega
  rcases this with rfl | rfl | rfl | rfl | rfl | rfl | rfl | rfl | rfl | rfl | rfl | rfl | rfl | rfl | rfl <;> decide
theorem TkR_num {nu v : Int} (wo : Int) (h1 : v ≤ 9999 → nu = v) (h2 : 9999 < v → 9999 < nu) : TkR 1 nu wo 30 v := by
  refine ⟨fun k' h1 h2 _ => ⟨fun h => by omega, fun h => by omega⟩, fun k' h1 h2 => ?_, fun _ => ⟨h1, h2⟩⟩
  have : k' = 30 ∨ k' = 31 ∨ k' = 32 ∨ k' = 33 ∨ k' = 34 ∨ k' = 35 ∨ k' = 36 ∨ k' = 37 ∨ k' = 38 ∨ k' = 39 ∨ k' = 40 ∨ k' = 41 ∨ k' = 42 ∨ k' = 43 ∨ k' = 44 := by omega
  rcases this with rfl | rfl | rfl | rfl | rfl | rfl | rfl | rfl | rfl | rfl | rfl | rfl | rfl | rfl | rfl <;> decide
theorem tcd_2 {k : Nat} (h : 30 ≤ k ∧ k ≤ 44) : tcd k ≠ 2 := by
  have : k = 30 ∨ k = 31 ∨ k = 32 ∨ k = 33 ∨ k = 34 ∨ k = 35 ∨ k = 36 ∨ k = 37 ∨ k = 38 ∨ k = 39 ∨ k = 40 ∨ k = 41 ∨ k = 42 ∨ k = 43 ∨ k = 44 := by omega
  rcases this with rfl | rfl | rfl | rfl | rfl | rfl | rfl | rfl | rfl | rfl | rfl | rfl | rfl | rfl | rfl <;> decide
theorem wcd_b {k : Nat} (h1 : 1 ≤ k) (h2 : k ≤ 29) : (k ≠ 2 → wcd k < 281474976710656) ∧ wcd 2 = 32199693642659429 := by
  have h : k = 1 ∨ k = 2 ∨ k = 3 ∨ k = 4 ∨ k = 5 ∨ k = 6 ∨ k = 7 ∨ k = 8 ∨ k = 9 ∨ k = 10 ∨ k = 11 ∨ k = 12 ∨ k = 13 ∨ k = 14 ∨ k = 15 ∨ k = 16 ∨ k = 17 ∨ k = 18 ∨ k = 19 ∨ k = 20 ∨ k = 21 ∨ k = 22 ∨ k = 23 ∨ k = 24 ∨ k = 25 ∨ k = 26 ∨ k = 27 ∨ k = 28 ∨ k = 29 := by omega
  refine ⟨?_, rfl⟩
  rcases h with rfl | rfl | rfl | rfl | rfl | rfl | rfl | rfl | rfl | rfl | rfl | rfl | rfl | rfl | rfl | rfl | rfl | rfl | rfl | rfl | rfl | rfl | rfl | rfl | rfl | rfl | rfl | rfl | rfl <;> decide
theorem TkR_word {B : Nat → Int} {p n : Nat} (nu v : Int) (h : ∀ i, i < n → 65 ≤ B (p + i) ∧ B (p + i) ≤ 122) : TkR 2 nu (rW B p n) (wkv (wvl B p n)) v := by
  obtain ⟨r1, r2, r3, r4⟩ := rW_v B p n h
  refine ⟨fun k' h1 h2 h3 => ?_, fun k' h1 h2 => ?_, fun e => ?_⟩
  · have hb := (wcd_b h1 h2).1 h3
    rw [wkv_c _ h1 h2]
    by_cases hn : n ≤ 7
    · rw [r1 hn]
      exact ⟨fun q => q.2, fun q => ⟨rfl, q⟩⟩
    · have := r2 (by omega)
      exact ⟨fun q => by omega, fun q => by omega⟩
  · have := tcd_2 ⟨h1, h2⟩
    have := wkv_b (wvl B p n)
    exact ⟨fun q => absurd q.symm (by omega), fun q => by omega⟩
  · have := wkv_b (wvl B p n)
    omega
theorem TkR_sgn {c t : Int} {two : Bool} (nu wo v : Int) (ht : t = if two = true then (if c = 60 then 4 else 5) else if sgnP c = true then c else 3) (h2 : two = true → c = 60 ∨ c = 62) : TkR t nu wo (sgk c two) v := by
  have hs := sgk_b c two
  have t2 : t ≠ 2 := by
    rw [ht]
    unfold sgnP
    simp only [decide_eq_true_eq]
    (repeat' split) <;> omega
  refine ⟨fun k' h1 h2 h3 => ⟨fun q => absurd q.1 t2, fun q => by omega⟩, fun k' h1 h2 => ?_, fun e => by omega⟩
  have hc : c = 35 ∨ c = 40 ∨ c = 41 ∨ c = 42 ∨ c = 43 ∨ c = 45 ∨ c = 47 ∨ c = 58 ∨ c = 59 ∨ c = 60 ∨ c = 61 ∨ c = 62 ∨ sgnP c = false := by
    by_cases h : sgnP c = true
    · unfold sgnP at h
      have := of_decide_eq_true h
      omega
    · have : sgnP c = false := by simpa using h
      simp [this]
  have hk : k' = 30 ∨ k' = 31 ∨ k' = 32 ∨ k' = 33 ∨ k' = 34 ∨ k' = 35 ∨ k' = 36 ∨ k' = 37 ∨ k' = 38 ∨ k' = 39 ∨ k' = 40 ∨ k' = 41 ∨ k' = 42 ∨ k' = 43 ∨ k' = 44 := by omega
  rw [ht]
  rcases hc with rfl | rfl | rfl | rfl | rfl | rfl | rfl | rfl | rfl | rfl | rfl | rfl | hc
  all_goals try (
    cases two
    · rcases hk with rfl | rfl | rfl | rfl | rfl | rfl | rfl | rfl | rfl | rfl | rfl | rfl | rfl | rfl | rfl <;> decide
    · first
        | (exfalso; have := h2 rfl; omega)
        | (rcases hk with rfl | rfl | rfl | rfl | rfl | rfl | rfl | rfl | rfl | rfl | rfl | rfl | rfl | rfl | rfl <;> decide))
  have hn : ¬ (c = 35 ∨ (40 ≤ c ∧ c ≤ 43) ∨ c = 45 ∨ c = 47 ∨ (58 ≤ c ∧ c ≤ 62)) := by
    unfold sgnP at hc
    exact of_decide_eq_false hc
  have htw : two = false := by
    cases two
    · rfl
    · have := h2 rfl
      omega
  have e0 : sgk c two = 0 := by
    unfold sgk
    rw [if_neg (by omega), if_neg (by omega), if_neg (by omega), if_neg (by omega), if_neg (by omega), if_neg (by omega), if_neg (by omega), if_neg (by omega), if_neg (by omega), if_neg (by omega), if_neg (by omega)]
  rw [e0, htw, if_neg (by decide), hc, if_neg (by decide)]
  rcases hk with rfl | rfl | rfl | rfl | rfl | rfl | rfl | rfl | rfl | rfl | rfl | rfl | rfl | rfl | rfl <;> decide
section NT2
variable {m : Nat} {S : jSt} {F F' : Nat → Nat → Int} {B : Nat → Int} {L : Nat}
theorem isLet_b {c : Int} (h : isLetP c = true) : 65 ≤ c ∧ c ≤ 122 ∧ isDigP c = false ∧ isBlk c = false := by
  unfold isLetP at h
  have := of_decide_eq_true h
  refine ⟨by omega, by omega, ?_, ?_⟩
  · unfold isDigP; exact decide_eq_false (by omega)
  · unfold isBlk; exact decide_eq_false (by omega)
theorem isDig_b {c : Int} (h : isDigP c = true) : 48 ≤ c ∧ c ≤ 57 := by
  unfold isDigP at h
  exact of_decide_eq_true h
theorem s_nextToken (R : RI m S F) (t : TP F B L) {p : Nat} (h7 : F 0 7 = (p : Int)) (hp : p ≤ L) : ∃ F', f_X12_nextToken (m : Int) (rS m S F) = some (0, rS m S F') ∧ LX F F' ∧ TokS F' B L (skp B L p) := by
  unfold f_X12_nextToken f_X12_nextToken_b0
  have key : ∀ (n : Nat) (F : Nat → Nat → Int) (p : Nat), RI m S F → TP F B L → F 0 7 = (p : Int) → p ≤ L → L - p < n → ∃ F', jrep (fun _ _ => none) (fun r => f_X12_nextToken_b0B r) n (m : Int) (rS m S F) = some (0, rS m S F') ∧ LX F F' ∧ TokS F' B L (skp B L p) := by
    intro n
    induction n with
    | zero => intro F p _ _ _ _ h; omega
    | succ n ih =>
      intro F p R t h7 hp hn
      have hL3 := t.2.2.1
      rw [jrep_s]
      unfold f_X12_nextToken_b0B f_X12_nextToken_b310 f_X12_nextToken_b26
      rw [r_g R, h7, r_cv R, s_byteAt R t, fcall_some]
      by_cases hL : p < L
      · rw [if_pos hL]
        have adv : isBlk (B p) = true → ∃ F', fget (rS m S F) (m : Int) 12 7 (fun v4 => fput (rS m S F) (m : Int) 12 7 (w32 (v4 + 1)) (fun S5 => jrep (fun _ _ => none) (fun r => f_X12_nextToken_b0B r) n (m : Int) S5)) = some (0, rS m S F') ∧ LX F F' ∧ TokS F' B L (skp B L p) := by
          intro hb
          have l1 := LX_p F (k := 7) ((p + 1 : Nat) : Int) (by omega)
          rw [r_g R, h7, w32_of (by omega) (by omega), r_p R, zs]
          obtain ⟨F', v, x1, x2⟩ := ih _ (p + 1) (LX_RI l1 R) (TP_LX t l1) (by rw [up0, if_pos rfl]) (by omega) (by omega)
          refine ⟨F', v, LX_t l1 x1, ?_⟩
          unfold skp at x2 ⊢
          rw [rE_1 hL hb]
          exact x2
        by_cases b32 : B p = 32
        · rw [if_pos b32]
          exact adv (by unfold isBlk; exact decide_eq_true (Or.inl b32))
        rw [if_neg b32, r_g R, h7, r_cv R, s_byteAt R t, fcall_some, if_pos hL]
        by_cases b10 : B p = 10
        · rw [if_pos b10]
          exact adv (by unfold isBlk; exact decide_eq_true (Or.inr b10))
        have nb : isBlk (B p) = false := by unfold isBlk; exact decide_eq_false (by omega)
        have es : skp B L p = p := by unfold skp; exact rE_0 (Or.inr nb)
        rw [if_neg b10, es, r_g R, h7, r_p R]
        have l1 := LX_p F (k := 8) (p : Int) (by omega)
        have R1 := LX_RI l1 R
        have t1 := TP_LX t l1
        have g7 : va_up F 0 (va_up (F 0) 8 (p : Int)) 0 7 = (p : Int) := by rw [up0, if_neg (by omega), h7]
        have g8 : va_up F 0 (va_up (F 0) 8 (p : Int)) 0 8 = (p : Int) := by rw [up0, if_pos rfl]
        generalize hF1 : va_up F 0 (va_up (F 0) 8 (p : Int)) = F1 at *
        have hbp := t.2.2.2 p hL
        rw [r_g R1, g7, r_cv R1, s_byteAt R1 t1, fcall_some, if_pos hL, if_pos hbp.1, s_figB, fcall_some]
        by_cases hdg : isDigP (B p) = true
        · have nlt : ¬ isLetP (B p) = true := fun q => by rw [(isLet_b q).2.2.1] at hdg; cases hdg
          rw [if_pos hdg, if_neg (by decide), r_p R1]
          have l2 := LX_p F1 (k := 9) 1 (by omega)
          have R2 := LX_RI l2 R1
          have l3 := LX_p (va_up F1 0 (va_up (F1 0) 9 1)) (k := 10) 0 (by omega)
          have R3 := LX_RI l3 R2
          rw [r_p R2]
          unfold f_X12_nextToken_b85
          obtain ⟨F', v, x1, ⟨x2, x3, x3'⟩, x4, x5⟩ := nt85 p jN _ p R3 (TP_LX (TP_LX t1 l2) l3) (by rw [up0, if_neg (by omega), up0, if_neg (by omega), g7]) (by omega) hp (fun i h1 h2 => by omega) (by rw [up0, if_pos rfl, Nat.sub_self]; rfl) (by unfold jN; omega)
          refine ⟨F', v, LX_t l1 (LX_t l2 (LX_t l3 x1)), ?_⟩
          have et : tnd B L p = rE isDigP B L p := by
            unfold tnd
            rw [if_neg (by omega), if_neg nlt, if_pos hdg]
          have rb := rE_b (pr := isDigP) (B := B) (L - p) p rfl hp
          refine ⟨⟨hp, ?_, ?_⟩, ?_, ?_⟩
          · rw [x2, up0, if_neg (by omega), up0, if_neg (by omega), g8]
          · rw [x4, et]
          · rw [x3, x5, up0, if_neg (by omega), up0, if_pos rfl]
            unfold kdX kdA vlA
            rw [if_pos hL, if_neg nlt, if_neg nlt, if_pos hdg, if_pos hdg, et]
            have q := rN_c B p (rE isDigP B L p - p) (fun i hi => isDig_b (rb.2.2.1 (p + i) (by omega) (by omega)))
            exact TkR_num _ q.2.1 q.2.2
          · rw [x3, up0, if_neg (by omega), up0, if_pos rfl]
            exact ⟨fun q => by omega, fun q => absurd q.2 nlt⟩
        · rw [if_neg hdg, if_pos rfl, s_letB, fcall_some]
          by_cases hlt : isLetP (B p) = true
          · rw [if_pos hlt, if_neg (by decide), r_p R1]
            have l2 := LX_p F1 (k := 9) 2 (by omega)
            have R2 := LX_RI l2 R1
            have l3 := LX_p (va_up F1 0 (va_up (F1 0) 9 2)) (k := 11) 0 (by omega)
            have R3 := LX_RI l3 R2
            rw [r_p R2]
            unfold f_X12_nextToken_b168
            obtain ⟨F', v, x1, ⟨x2, x3⟩, x4, x5⟩ := nt168 p jN _ p R3 (TP_LX (TP_LX t1 l2) l3) (by rw [up0, if_neg (by omega), up0, if_neg (by omega), g7]) (by omega) hp (by rw [up0, if_pos rfl, Nat.sub_self]; rfl) (by unfold jN; omega)
            refine ⟨F', v, LX_t l1 (LX_t l2 (LX_t l3 x1)), ?_⟩
            have et : tnd B L p = rE isLetP B L p := by
              unfold tnd
              rw [if_neg (by omega), if_pos hlt]
            have rb := rE_b (pr := isLetP) (B := B) (L - p) p rfl hp
            refine ⟨⟨hp, ?_, ?_⟩, ?_, ?_⟩
            · rw [x2, up0, if_neg (by omega), up0, if_neg (by omega), g8]
            · rw [x4, et]
            · rw [x3, x5, up0, if_neg (by omega), up0, if_pos rfl]
              unfold kdX kdA
              rw [if_pos hL, if_pos hlt, et]
              exact TkR_word _ _ (fun i hi => by have := isLet_b (rb.2.2.1 (p + i) (by omega) (by omega)); omega)
            · rw [x3, up0, if_neg (by omega), up0, if_pos rfl]
              exact ⟨fun _ => ⟨hL, hlt⟩, fun _ => rfl⟩
          · rw [if_neg hlt, if_pos rfl, s_sgnB, fcall_some]
            have fin : ∀ z : Int, z = (if sgnP (B p) = true then B p else 3) → ∃ F', f_X12_nextToken_b247 (m : Int) (B p) (m : Int) z (rS m S F1) = some (0, rS m S F') ∧ LX F F' ∧ TokS F' B L p := by
              intro z hz
              unfold f_X12_nextToken_b247 f_X12_nextToken_b272 f_X12_nextToken_b297 f_X12_nextToken_b310
              have l2 := LX_p F1 (k := 9) z (by omega)
              have R2 := LX_RI l2 R1
              have l3 := LX_p (va_up F1 0 (va_up (F1 0) 9 z)) (k := 7) ((p + 1 : Nat) : Int) (by omega)
              have R3 := LX_RI l3 R2
              have t3 := TP_LX (TP_LX t1 l2) l3
              rw [r_p R1, r_g R2, up0, if_neg (by omega), g7, w32_of (by omega) (by omega), r_p R2, zs]
              have q7 : va_up (va_up F1 0 (va_up (F1 0) 9 z)) 0 (va_up (va_up F1 0 (va_up (F1 0) 9 z) 0) 7 ((p + 1 : Nat) : Int)) 0 7 = ((p + 1 : Nat) : Int) := by rw [up0, if_pos rfl]
              have q8 : va_up (va_up F1 0 (va_up (F1 0) 9 z)) 0 (va_up (va_up F1 0 (va_up (F1 0) 9 z) 0) 7 ((p + 1 : Nat) : Int)) 0 8 = (p : Int) := by rw [up0, if_neg (by omega), up0, if_neg (by omega), g8]
              have q9 : va_up (va_up F1 0 (va_up (F1 0) 9 z)) 0 (va_up (va_up F1 0 (va_up (F1 0) 9 z) 0) 7 ((p + 1 : Nat) : Int)) 0 9 = z := by rw [up0, if_neg (by omega), up0, if_pos rfl]
              generalize hF2 : va_up (va_up F1 0 (va_up (F1 0) 9 z)) 0 (va_up (va_up F1 0 (va_up (F1 0) 9 z) 0) 7 ((p + 1 : Nat) : Int)) = F2 at *
              have l123 : LX F F2 := LX_t l1 (LX_t l2 l3)
              have z2 : z ≠ 2 := by
                rw [hz]
                split
                · rename_i h
                  unfold sgnP at h
                  have := of_decide_eq_true h
                  omega
                · omega
              have one : tnd B L p = p + 1 → ∃ F', (some (0, rS m S F2) : Option (Int × jSt)) = some (0, rS m S F') ∧ LX F F' ∧ TokS F' B L p := fun et => by
                refine ⟨F2, rfl, l123, ⟨hp, q8, by rw [q7, et]⟩, ?_, ?_⟩
                · rw [q9]
                  unfold kdX kdA
                  rw [if_pos hL, if_neg hlt, if_neg hdg, et, show decide (p + 1 < p + 1) = false from decide_eq_false (by omega)]
                  exact TkR_sgn _ _ _ (by rw [if_neg (by decide)]; exact hz) (fun q => by cases q)
                · rw [q9]
                  exact ⟨fun q => absurd q z2, fun q => absurd q.2 hlt⟩
              have et1 : ¬ ((B p = 60 ∨ B p = 62) ∧ p + 1 < L ∧ B (p + 1) = 61) → tnd B L p = p + 1 := fun h => by
                unfold tnd
                rw [if_neg (by omega), if_neg hlt, if_neg hdg, if_neg h]
              by_cases hc : B p = 60 ∨ B p = 62
              · have two : ∃ F', fget (rS m S F2) (m : Int) 12 7 (fun v23 => fcallv (rS m S F2) (m : Int) 12 (f_X12_byteAt (m : Int) v23 (rS m S F2)) (fun v24 S25 => if v24 = 61 then if B p = 60 then fput S25 (m : Int) 12 9 4 (fun S26 => fget S26 (m : Int) 12 7 (fun v27 => fput S26 (m : Int) 12 7 (w32 (v27 + 1)) (fun S28 => some (0, S28)))) else fput S25 (m : Int) 12 9 5 (fun S26 => fget S26 (m : Int) 12 7 (fun v27 => fput S26 (m : Int) 12 7 (w32 (v27 + 1)) (fun S28 => some (0, S28)))) else some (0, S25))) = some (0, rS m S F') ∧ LX F F' ∧ TokS F' B L p := by
                  rw [r_g R3, q7, r_cv R3, s_byteAt R3 t3, fcall_some]
                  by_cases h61 : p + 1 < L ∧ B (p + 1) = 61
                  · rw [if_pos h61.1, if_pos h61.2]
                    have et : tnd B L p = p + 2 := by
                      unfold tnd
                      rw [if_neg (by omega), if_neg hlt, if_neg hdg, if_pos ⟨hc, h61⟩]
                    have go : ∀ y : Int, y = (if B p = 60 then 4 else 5) → ∃ F', fput (rS m S F2) (m : Int) 12 9 y (fun S26 => fget S26 (m : Int) 12 7 (fun v27 => fput S26 (m : Int) 12 7 (w32 (v27 + 1)) (fun S28 => some (0, S28)))) = some (0, rS m S F') ∧ LX F F' ∧ TokS F' B L p := by
                      intro y hy
                      have l4 := LX_p F2 (k := 9) y (by omega)
                      have R4 := LX_RI l4 R3
                      have l5 := LX_p (va_up F2 0 (va_up (F2 0) 9 y)) (k := 7) ((p + 1 + 1 : Nat) : Int) (by omega)
                      rw [r_p R3, r_g R4, up0, if_neg (by omega), q7, w32_of (by omega) (by omega), r_p R4, zs]
                      refine ⟨_, rfl, LX_t l123 (LX_t l4 l5), ⟨hp, ?_, ?_⟩, ?_, ?_⟩
                      · rw [up0, if_neg (by omega), up0, if_neg (by omega), q8]
                      · rw [up0, if_pos rfl, et]
                      · rw [up0, if_neg (by omega), up0, if_pos rfl]
                        unfold kdX kdA
                        rw [if_pos hL, if_neg hlt, if_neg hdg, et, show decide (p + 1 < p + 2) = true from decide_eq_true (by omega)]
                        exact TkR_sgn _ _ _ (by rw [if_pos rfl]; exact hy) (fun _ => hc)
                      · rw [up0, if_neg (by omega), up0, if_pos rfl]
                        refine ⟨fun q => ?_, fun q => absurd q.2 hlt⟩
                        rw [hy] at q
                        split at q <;> omega
                    by_cases h60 : B p = 60
                    · rw [if_pos h60]
                      exact go 4 (by rw [if_pos h60])
                    · rw [if_neg h60]
                      exact go 5 (by rw [if_neg h60])
                  · have : ¬ (if p + 1 < L then B (p + 1) else -1) = 61 := by
                      split
                      · rename_i h; exact fun q => h61 ⟨h, q⟩
                      · omega
                    rw [if_neg this]
                    exact one (et1 (fun q => h61 q.2))
                by_cases h60 : B p = 60
                · rw [if_pos h60]; exact two
                · rw [if_neg h60, if_pos (by omega)]; exact two
              · rw [if_neg (by omega), if_neg (by omega)]
                exact one (et1 (fun q => hc q.1))
            by_cases hs : sgnP (B p) = true
            · rw [if_pos hs, if_neg (by decide)]
              exact fin _ (by rw [if_pos hs])
            · rw [if_neg hs, if_pos rfl]
              exact fin _ (by rw [if_neg hs])
      · have e : p = L := by omega
        rw [if_neg hL, if_neg (by decide), r_g R, h7, r_cv R, s_byteAt R t, fcall_some, if_neg hL, if_neg (by decide), r_g R, h7, r_p R]
        have l1 := LX_p F (k := 8) (p : Int) (by omega)
        have R1 := LX_RI l1 R
        rw [r_g R1, up0, if_neg (by omega), h7, r_cv R1, s_byteAt R1 (TP_LX t l1), fcall_some, if_neg hL, if_neg (by decide), r_p R1]
        have l2 := LX_p (va_up F 0 (va_up (F 0) 8 (p : Int))) (k := 9) 0 (by omega)
        have es : skp B L p = p := by unfold skp; exact rE_0 (Or.inl (by omega))
        refine ⟨_, rfl, LX_t l1 l2, ?_⟩
        rw [es]
        refine ⟨⟨hp, ?_, ?_⟩, ?_, ?_⟩
        · rw [up0, if_neg (by omega), up0, if_pos rfl]
        · rw [up0, if_neg (by omega), up0, if_neg (by omega), h7]
          unfold tnd
          rw [if_pos (by omega)]
        · rw [up0, if_pos rfl]
          unfold kdX
          rw [if_neg hL]
          exact TkR_end _ _ _
        · rw [up0, if_pos rfl]
          exact ⟨fun q => by omega, fun q => absurd q.1 hL⟩
  exact key jN F p R t h7 hp (by have := t.2.2.1; unfold jN; omega)
end NT2
