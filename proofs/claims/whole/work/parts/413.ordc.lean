-- order, the class' side
section OC
variable {x : Nat} {S : jSt} {V : LwV}
def Bst (C : Nat → Nat → Int) (b : Int × List Nat) : Prop := C 417 0 = b.1 ∧ ∀ i, i < b.2.length → C 418 i = ((b.2.getD i 0 : Nat) : Int)
theorem HR_f2 {C C' : Nat → Nat → Int} {a : Nat → Int} (h : HR false x S V a C 420) (I : CI x S C') (hf : ∀ i, i ≠ 413 → i ≠ 415 → i ≠ 416 → i ≠ 417 → i ≠ 418 → i ≠ 419 → C' i = C i) : HR false x S V a C' 420 := by
  obtain ⟨_, T, H, W, L, _⟩ := h
  refine ⟨I, Td_fr T (fun i h1 h2 => hf i (by omega) (by omega) (by omega) (by omega) (by omega) (by omega)), Hs_fr H (fun i h1 h2 => hf i (by omega) (by omega) (by omega) (by omega) (by omega) (by omega)), W, ?_, fun z => Bool.noConfusion z⟩
  rw [hf 4 (by omega) (by omega) (by omega) (by omega) (by omega) (by omega)]
  exact L
theorem bts_nil {N s : Nat} (hs : s < 2 ^ N) (h : (bts N s).length = 0) : s = 0 := by
  refine Nat.eq_of_testBit_eq (fun i => ?_)
  rw [Nat.zero_testBit]
  refine Bool.eq_false_iff.mpr (fun z => ?_)
  have hi : i < N := by
    rcases Nat.lt_or_ge i N with q | q
    · exact q
    · rw [Nat.testBit_lt_two_pow (Nat.lt_of_lt_of_le hs (Nat.pow_le_pow_right (by decide) q))] at z
      exact Bool.noConfusion z
  have m := bts_m.mpr ⟨hi, z⟩
  rw [List.eq_nil_of_length_eq_zero h] at m
  cases m
theorem getD_app {q : List Nat} {y i : Nat} (h : i < q.length + 1) : (q ++ [y]).getD i 0 = if i < q.length then q.getD i 0 else y := by
  rw [List.getD_eq_getElem?_getD, List.getD_eq_getElem?_getD]
  by_cases c : i < q.length
  · rw [if_pos c, List.getElem?_append_left c]
  · rw [if_neg c, List.getElem?_append_right (by omega), show i - q.length = 0 by omega]
    rfl
theorem bts_l {N s y : Nat} (hm : y < N) (h : s.testBit y = true) {n : Nat} (hl : (bts N s).length = n + 1) : (bts N (s ^^^ (s &&& 2 ^ y))).length = n := by
  have key : ∀ l : List Nat, l.Nodup → y ∈ l → (l.filter (fun z => !(z == y))).length + 1 = l.length := fun l => by
    induction l with
    | nil => intro _ h; cases h
    | cons z l ih =>
      intro hn hy
      rw [List.nodup_cons] at hn
      by_cases e : z = y
      · subst e
        rw [List.filter_cons_of_neg (by rw [beq_self_eq_true]; decide), List.length_cons]
        congr 1
        rw [List.filter_eq_self.mpr (fun w hw => by
          rw [beq_false_of_ne (fun q => hn.1 (by rw [← q]; exact hw))]
          rfl)]
      · rw [List.filter_cons_of_pos (by rw [beq_false_of_ne e]; rfl), List.length_cons, List.length_cons, ih hn.2 ((List.mem_cons.mp hy).resolve_left (fun q => e q.symm))]
  have nd : (bts N s).Nodup := List.Pairwise.filter _ List.nodup_range
  have := key _ nd (bts_m.mpr ⟨hm, h⟩)
  rw [bts_f]
  omega
theorem c_tryO {N : Nat} (hN12 : N ≤ 12) : ∀ (n fuel s d : Nat) (t : Int) (a : Nat → Int) (C : Nat → Nat → Int) (q : List Nat) (bt : Int × List Nat), n < fuel → HR false x S V a C 420 → a 0 = (N : Int) → s < 2 ^ N → (bts N s).length = n → d + n ≤ 5 → q.length = d → (∀ l, s.testBit l = true → a (12 + 5 * l) = 0) → (∀ i, i < d → C 419 i = ((q.getD i 0 : Nat) : Int)) → Bst C bt → 0 ≤ t ∧ t ≤ 9999 * (d : Int) → ∃ C', grp_X0_tryOrders fuel ((x + 417 : Nat) : Int) ((x + 420 : Nat) : Int) (s : Int) (d : Int) t (cS x S C) = some (0, cS x S C') ∧ HR false x S V a C' 420 ∧ (∀ i, i < d → C' 419 i = C 419 i) ∧ Bst C' ((cnd V N n a s).foldl (fun b c => bup b (t + c.1, q ++ c.2)) bt) ∧ ∀ i, i < 413 → C' i = C i := by
  intro n
  induction n with
  | zero =>
    intro fuel s d t a C q bt hfu H hN hs hl hd hq hin hpa hB ht
    obtain ⟨k, rfl⟩ : ∃ k, fuel = k + 1 := ⟨fuel - 1, by omega⟩
    have s0 := bts_nil hs hl
    subst s0
    have I := H.1
    rw [show grp_X0_tryOrders (k + 1) = f_X0_tryOrders_G (grp_X0_tryOrders k) from rfl]
    unfold f_X0_tryOrders_G f_X0_tryOrders_b9 f_X0_tryOrders_b38
    rw [if_pos (show ((0 : Nat) : Int) = 0 from rfl), cg_417 I, hB.1]
    have fe : (cnd V N 0 a 0).foldl (fun b c => bup b (t + c.1, q ++ c.2)) bt = bup bt (t, q) := by
      show bup bt (t + 0, q ++ []) = _
      rw [Int.add_zero, List.append_nil]
    rw [fe]
    unfold bup
    by_cases c : t ≤ bt.1
    · rw [if_pos c, if_neg (by show ¬ bt.1 < t; omega)]
      exact ⟨C, rfl, H, fun _ _ => rfl, hB, fun _ _ => rfl⟩
    · rw [if_neg c, if_pos (by show bt.1 < t; omega)]
      have I1 : CI x S (va_up C 417 (va_up (C 417) 0 t)) := CI_up I rfl
      have I2 : CI x S (va_up (va_up C 417 (va_up (C 417) 0 t)) 418 (va_cpy (va_up C 417 (va_up (C 417) 0 t) 419) (va_up C 417 (va_up (C 417) 0 t) 418) 0 0 5)) := CI_ar I1 (fun _ => rfl)
      rw [cp_417 I, cr417_6 I1, cr417_1 I1, c_cpy I1 (i := 419) (j := 418) (ni := 5) (nj := 5) (by decide) (by decide) rfl rfl (by decide) (by decide) (by decide)]
      refine ⟨_, rfl, HR_f2 H I2 (fun i _ _ _ h1 h2 _ => by rw [va_up_ne _ _ h2, va_up_ne _ _ h1]), fun i hi => ?_, ⟨?_, fun i hi => ?_⟩, fun i hi => by rw [va_up_ne _ _ (by omega), va_up_ne _ _ (by omega)]⟩
      · rw [va_up_ne _ _ (by decide), va_up_ne _ _ (by decide)]
      · rw [va_up_ne _ _ (by decide), va_up_self, va_up_self]
      · have hi2 : i < q.length := hi
        rw [va_up_self]
        show va_cpy _ _ 0 0 5 i = _
        rw [pk_cpy_in (by omega) (by omega), va_up_ne _ _ (by decide), show 0 + (i - 0) = i by omega]
        exact hpa i (by omega)
  | succ n ih =>
    intro fuel s d t a C q bt hfu H hN hs hl hd hq hin hpa hB ht
    obtain ⟨k, rfl⟩ : ∃ k, fuel = k + 1 := ⟨fuel - 1, by omega⟩
    have N12 : 2 ^ N ≤ 4096 := Nat.pow_le_pow_right (n := 2) (by decide) hN12
    have s0 : s ≠ 0 := fun z => by
      subst z
      have : bts N 0 = [] := by
        unfold bts
        rw [List.filter_eq_nil_iff]
        intro l _
        rw [Nat.zero_testBit]
        decide
      rw [this] at hl
      exact absurd hl (by rw [List.length_nil]; omega)
    have w1 := H.2.2.2.1.1.2.1
    rw [show grp_X0_tryOrders (k + 1) = f_X0_tryOrders_G (grp_X0_tryOrders k) from rfl]
    unfold f_X0_tryOrders_G
    rw [if_neg (by omega), if_pos (by omega)]
    obtain ⟨g, hg⟩ : ∃ g, g = grp_X0_tryOrders k := ⟨_, rfl⟩
    obtain ⟨cs, hcs⟩ : ∃ cs : Nat → List (Int × List Nat), cs = fun y => (cnd V N n (oA V a y) (s ^^^ (s &&& 2 ^ y))).map (fun c => (oP V a y + c.1, y :: c.2)) := ⟨_, rfl⟩
    rw [← hg]
    unfold f_X0_tryOrders_b42
    refine lpe (fun (r : Int → Int → Int → Int → Int → Int → fK) i (c : Nat → Nat → Int) => r ((x + 417 : Nat) : Int) ((x + 420 : Nat) : Int) (s : Int) (d : Int) t (i : Int) (cS x S c)) (fun i c => HR false x S V a c 420 ∧ (∀ j, j < d → c 419 j = C 419 j) ∧ Bst c (((bts i s).flatMap cs).foldl (fun b c => bup b (t + c.1, q ++ c.2)) bt) ∧ ∀ j, j < 413 → c j = C j) (fun r => ∃ C', r = some (0, cS x S C') ∧ HR false x S V a C' 420 ∧ (∀ i, i < d → C' 419 i = C 419 i) ∧ Bst C' ((cnd V N (n + 1) a s).foldl (fun b c => bup b (t + c.1, q ++ c.2)) bt) ∧ ∀ i, i < 413 → C' i = C i) (N := N) ?_ ?_ jN 0 C (by omega) (by unfold jN; omega) ⟨H, fun _ _ => rfl, hB, fun _ _ => rfl⟩
    · intro r i c hi hinv ihr
      obtain ⟨Hc, hp, hb, hf⟩ := hinv
      have Ic := Hc.1
      show ∃ C', f_X0_tryOrders_b42B g r _ _ _ _ _ _ _ = _ ∧ _
      unfold f_X0_tryOrders_b42B f_X0_tryOrders_b191
      rw [cr417_7 Ic, cg_1 Ic, Hc.2.1.1, hN, if_neg (by omega), bit_n (by omega) (by omega)]
      simp only [flet_eq]
      rw [w32_of (z := (i : Int) + 1) (by omega) (by omega), zs i]
      by_cases h1 : s.testBit i = true
      · rw [if_pos h1, if_neg (by decide)]
        have a0 := hin i h1
        have I1 : CI x S (va_up c 419 (va_up (c 419) d (i : Int))) := CI_ar Ic (fun _ => rfl)
        rw [cr417_6 Ic, st_419 Ic (by omega) (by omega), toNat_z, cr417_8 I1, cv_413 I1]
        have H1 : HR false x S V a (va_up c 419 (va_up (c 419) d (i : Int))) 420 := HR_f2 Hc I1 (fun j _ _ _ _ _ h6 => va_up_ne _ _ h6)
        obtain ⟨c2, v2, H2, ⟨z1, z2⟩, f2⟩ := c_findWinner iH420 H1 (l := i) (by omega)
        have I2 := H2.1
        have wn : wnv a V i = winv a V i := by unfold wnv; rw [if_pos a0]
        rw [wn] at z1 z2
        have e19 : ∀ j, j < d + 1 → c2 419 j = (((q ++ [i]).getD j 0 : Nat) : Int) := fun j hj => by
          rw [f2 419 (by omega) (by omega) (by omega), va_up_self, getD_app (by omega)]
          by_cases e : j < q.length
          · rw [if_pos e, va_up_ne _ _ (by omega), hp j (by omega), hpa j (by omega)]
          · rw [if_neg e, show j = d by omega, va_up_self]
        have e19b : ∀ j, j < d → c2 419 j = C 419 j := fun j hj => by
          rw [f2 419 (by omega) (by omega) (by omega), va_up_self, va_up_ne _ _ (by omega), hp j hj]
        have b2 : Bst c2 (((bts i s).flatMap cs).foldl (fun b c => bup b (t + c.1, q ++ c.2)) bt) := ⟨by rw [f2 417 (by omega) (by omega) (by omega), va_up_ne _ _ (by omega)]; exact hb.1, fun j hj => by rw [f2 418 (by omega) (by omega) (by omega), va_up_ne _ _ (by omega)]; exact hb.2 j hj⟩
        have fr2 : ∀ j, j < 413 → c2 j = C j := fun j hj => by rw [f2 j (by omega) (by omega) (by omega), va_up_ne _ _ (by omega), hf j hj]
        have sl : s ^^^ (s &&& 2 ^ i) < 2 ^ N := Nat.xor_lt_two_pow hs (Nat.lt_of_le_of_lt Nat.and_le_left hs)
        have sn := bts_l hi h1 hl
        have sb : ∀ l, (s ^^^ (s &&& 2 ^ i)).testBit l = true → s.testBit l = true ∧ l ≠ i := fun l hl2 => by
          rw [anot_t, Nat.testBit_two_pow, Bool.and_eq_true] at hl2
          refine ⟨hl2.1, fun z => ?_⟩
          have h3 := hl2.2
          rw [z, decide_eq_true rfl] at h3
          exact Bool.noConfusion h3
        have fe : ∀ b0 : Int × List Nat, (cnd V N n (oA V a i) (s ^^^ (s &&& 2 ^ i))).foldl (fun b c => bup b (t + oP V a i + c.1, (q ++ [i]) ++ c.2)) b0 = (cs i).foldl (fun b c => bup b (t + c.1, q ++ c.2)) b0 := fun b0 => by
          rw [hcs]
          show _ = List.foldl _ b0 ((cnd V N n (oA V a i) (s ^^^ (s &&& 2 ^ i))).map (fun c => (oP V a i + c.1, i :: c.2)))
          rw [List.foldl_map]
          congr 1
          funext b c
          rw [Int.add_assoc, List.append_assoc]
          rfl
        have bs : (bts (i + 1) s).flatMap cs = (bts i s).flatMap cs ++ cs i := by
          rw [bts_s, if_pos h1, List.flatMap_append, List.flatMap_cons, List.flatMap_nil, List.append_nil]
        rw [v2, fcall_some, cr417_8 I2, cg_413 I2, z1, cr417_8 I2, cg_413 I2, z2, ishl_n (by omega), anot (by omega), w32_of (z := (d : Int) + 1) (by omega) (by omega), zs d]
        have iN : i < 12 := by omega
        obtain ⟨oW, oK, oI, op1, op2⟩ := oA_W (V := V) H.2.2.2.1 (l := i) (by omega)
        by_cases h2 : winv a V i = -1
        · have eA : oA V a i = a := by unfold oA; rw [if_pos h2]
          have eP : oP V a i = 0 := by unfold oP; rw [if_pos h2]
          rw [eA, eP] at fe
          obtain ⟨c3, v3, H3, p3, b3, f3⟩ := ih k (s ^^^ (s &&& 2 ^ i)) (d + 1) t a c2 (q ++ [i]) _ (by omega) H2 hN sl sn (by omega) (by rw [List.length_append, hq]; rfl) (fun l hl2 => hin l (sb l hl2).1) e19 b2 (by omega)
          rw [if_pos h2, c_v I2 (i := 417) (by decide) rfl, hg, v3, fcall_some]
          refine ihr c3 ⟨H3, fun j hj => by rw [p3 j (by omega), e19b j hj], ?_, fun j hj => by rw [f3 j hj, fr2 j hj]⟩
          rw [bs, List.foldl_append, ← fe]
          rw [Int.add_zero] at fe ⊢
          exact b3
        · obtain ⟨n1, n2, n3, n4⟩ := (winv_n (V := V) H.2.2.2.1 i).resolve_left h2
          obtain ⟨w, hw⟩ : ∃ w : Nat, winv a V i = (w : Int) := ⟨(winv a V i).toNat, by omega⟩
          have pb := (H.2.2.2.1.2.2 w (by omega)).1
          have ew : c2 (420 + 3) w = a (71 + 14 * w) := (H2.2.2.1.2.2.1 w (by omega)).1
          have eP : oP V a i = pricev a V i := by unfold oP; rw [if_neg h2]
          have eA : oA V a i = va_up (va_up a (71 + 14 * w) (a (71 + 14 * w) - pricev a V i)) (12 + 5 * i) (3 + (w : Int)) := by unfold oA; rw [if_neg h2, hw, toNat_z]
          rw [hw, toNat_z] at n4
          have HP := HR_purse iH420 H2 (b := w) (by omega) (z := a (71 + 14 * w) - pricev a V i) (by omega)
          have HW := HR_where iH420 HP (l := i) (by rw [va_up_ne _ _ (by omega)]; omega) (z := 3 + (w : Int)) (by rw [va_up_ne _ _ (by omega)]; omega)
          rw [← eA] at HW
          rw [if_neg h2, if_neg h2, hw, crh_2 I2 iH420, alh_3 I2 iH420 (by omega) (by omega), toNat_z, ew, w32_of (z := a (71 + 14 * w) - pricev a V i) (by omega) (by omega), sth_3 I2 iH420 (by omega) (by omega), toNat_z, crh_0 HP.1 iH420, w32_of (z := 3 + (w : Int)) (by omega) (by omega), sth_1 HP.1 iH420 (by omega) (by omega), toNat_z, w32_of (z := t + pricev a V i) (by omega) (by omega)]
          generalize hc3 : va_up (va_up c2 (420 + 3) (va_up (c2 (420 + 3)) w (a (71 + 14 * w) - pricev a V i))) (420 + 1) (va_up (va_up c2 (420 + 3) (va_up (c2 (420 + 3)) w (a (71 + 14 * w) - pricev a V i)) (420 + 1)) i (3 + (w : Int))) = c3 at *
          have fr3 : ∀ j, j < 420 → c3 j = c2 j := fun j hj => by rw [← hc3, va_up_ne _ _ (by omega), va_up_ne _ _ (by omega)]
          have I3 := HW.1
          rw [eP] at fe
          obtain ⟨c4, v4, H4, p4, b4, f4⟩ := ih k (s ^^^ (s &&& 2 ^ i)) (d + 1) (t + pricev a V i) (oA V a i) c3 (q ++ [i]) (((bts i s).flatMap cs).foldl (fun b c => bup b (t + c.1, q ++ c.2)) bt) (by omega) HW (by rw [oK 0 (by omega)]; exact hN) sl sn (by omega) (by rw [List.length_append, hq]; rfl) (fun l hl2 => by
            have hlN : l < N := by
              rcases Nat.lt_or_ge l N with q1 | q1
              · exact q1
              · rw [Nat.testBit_lt_two_pow (Nat.lt_of_lt_of_le sl (Nat.pow_le_pow_right (by decide) q1))] at hl2
                exact Bool.noConfusion hl2
            rw [oI l (by omega) (sb l hl2).2]
            exact hin l (sb l hl2).1) (fun j hj => by rw [fr3 419 (by omega)]; exact e19 j hj) ⟨by rw [fr3 417 (by omega)]; exact b2.1, fun j hj => by rw [fr3 418 (by omega)]; exact b2.2 j hj⟩ (by omega)
          have I4 := H4.1
          have oA1 : oA V a i 1 = a 1 := oK 1 (by omega)
          have oA0 : oA V a i 0 = a 0 := oK 0 (by omega)
          have ew4 : c4 (420 + 3) w = a (71 + 14 * w) - pricev a V i := by
            rw [(H4.2.2.1.2.2.1 w (by rw [oA1]; omega)).1, eA, va_up_ne _ _ (by omega), va_up_self]
          have HP5 := HR_purse iH420 H4 (b := w) (by rw [oA1]; omega) (z := a (71 + 14 * w)) (by omega)
          have HW5 := HR_where iH420 HP5 (l := i) (by rw [va_up_ne _ _ (by omega), oA0]; omega) (z := 0) (by rw [va_up_ne _ _ (by omega), oA1]; omega)
          have back : va_up (va_up (oA V a i) (71 + 14 * w) (a (71 + 14 * w))) (12 + 5 * i) 0 = a := by
            rw [eA]
            funext j
            by_cases j1 : j = 12 + 5 * i
            · subst j1
              rw [va_up_self, a0]
            · rw [va_up_ne _ _ j1]
              by_cases j2 : j = 71 + 14 * w
              · subst j2
                rw [va_up_self]
              · rw [va_up_ne _ _ j2, va_up_ne _ _ j1, va_up_ne _ _ j2]
          rw [back] at HW5
          rw [c_v I3 (i := 417) (by decide) rfl, hg, v4, fcall_some, crh_2 I4 iH420, alh_3 I4 iH420 (by omega) (by omega), toNat_z, ew4, show a (71 + 14 * w) - pricev a V i + pricev a V i = a (71 + 14 * w) by omega, w32_of (z := a (71 + 14 * w)) (by omega) (by omega), sth_3 I4 iH420 (by omega) (by omega), toNat_z, crh_0 HP5.1 iH420, sth_1 HP5.1 iH420 (by omega) (by omega), toNat_z]
          refine ihr _ ⟨HW5, fun j hj => ?_, ⟨?_, fun j hj => ?_⟩, fun j hj => ?_⟩
          · rw [va_up_ne _ _ (by decide), va_up_ne _ _ (by decide), p4 j (by omega), fr3 419 (by omega), e19b j hj]
          · rw [va_up_ne _ _ (by decide), va_up_ne _ _ (by decide), bs, List.foldl_append, ← fe]
            exact b4.1
          · rw [bs, List.foldl_append, ← fe] at hj ⊢
            rw [va_up_ne _ _ (by decide), va_up_ne _ _ (by decide)]
            exact b4.2 j hj
          · rw [va_up_ne _ _ (by omega), va_up_ne _ _ (by omega), f4 j hj, fr3 j (by omega), fr2 j hj]
      · rw [if_neg h1, if_pos rfl]
        refine ihr c ⟨Hc, hp, ?_, hf⟩
        rw [bts_s, if_neg h1, List.append_nil]
        exact hb
    · intro r c hinv
      obtain ⟨Hc, hp, hb, hf⟩ := hinv
      have Ic := Hc.1
      show ∃ C', f_X0_tryOrders_b42B g r _ _ _ _ _ _ _ = _ ∧ _
      unfold f_X0_tryOrders_b42B
      rw [cr417_7 Ic, cg_1 Ic, Hc.2.1.1, hN, if_pos (by omega)]
      refine ⟨c, rfl, Hc, hp, ?_, hf⟩
      rw [show cnd V N (n + 1) a s = (bts N s).flatMap cs by rw [hcs]; rfl]
      exact hb
end OC
