-- order
section OO
variable {x : Nat}
theorem bcw (S : jSt) : ∀ n : Nat, n < 4096 → f_J6_bitCount_0f7a4 (n : Int) S = some (((pcf 31 n : Nat) : Int), S) := by
  have key : ∀ h : Nat, h < 64 → ∀ l : Nat, l < 64 → (f_J6_bitCount_0f7a4 ((64 * h + l : Nat) : Int) ((0, 0, fun _ => (9, 0), fun _ _ => 0) : jSt)).map (fun p => p.1) = some ((pcf 31 (64 * h + l) : Nat) : Int) := by decide +kernel
  intro n hn
  have h := key (n / 64) (by omega) (n % 64) (by omega)
  rw [show 64 * (n / 64) + n % 64 = n by omega] at h
  have e : ∀ S : jSt, f_J6_bitCount_0f7a4 (n : Int) S = ((f_J6_bitCount_0f7a4 (n : Int) ((0, 0, fun _ => (9, 0), fun _ _ => 0) : jSt)).map (fun p => p.1)).map (fun v => (v, S)) := fun S => rfl
  rw [e S, h]
  rfl
theorem bca (z : Int) : ∃ v, ∀ S, f_J6_bitCount_0f7a4 z S = some (v, S) := ⟨_, fun _ => rfl⟩
theorem c_hasLots {S : jSt} {C : Nat → Nat → Int} {a : Nat → Int} (I : CI x S C) (T : Td a C 1) {N : Nat} (hN : a 0 = (N : Int)) (h12 : N ≤ 12) (z : Int) : f_X10_hasLots ((x + 1 : Nat) : Int) z (cS x S C) = some (b01 (0 ≤ z ∧ z < ((2 ^ N : Nat) : Int)), cS x S C) := by
  unfold f_X10_hasLots f_X10_hasLots_b18 f_X10_hasLots_b19 b01
  by_cases h1 : z < 0
  · rw [if_pos h1, if_neg (by omega)]
  · rw [if_neg h1, cg_1 I, T.1, hN, ishl_n (by omega)]
    by_cases h2 : ((2 ^ N : Nat) : Int) ≤ z
    · rw [if_pos h2, if_neg (fun q => by have := q.2; omega)]
    · rw [if_neg h2, if_pos ⟨by omega, by omega⟩]
theorem bts_len {N s : Nat} (hs : s < 2 ^ N) (hN : N ≤ 12) : (bts N s).length = pcf 31 s := by
  have key : ∀ k, (bts k s).length = cnt (fun i => s.testBit i) k := fun k => by
    induction k with
    | zero => rfl
    | succ k ih =>
      rw [bts_s, List.length_append, ih]
      show _ = cnt (fun i => s.testBit i) k + (if s.testBit k then 1 else 0)
      by_cases h : s.testBit k = true
      · rw [if_pos h, if_pos h]; rfl
      · rw [if_neg h, if_neg h]; rfl
  obtain ⟨d, hd⟩ : ∃ d, 31 = N + d := ⟨31 - N, by omega⟩
  rw [key, pcf_cnt, hd, cnt_hi _ N d (fun i hi => Nat.testBit_lt_two_pow (Nat.lt_of_lt_of_le hs (Nat.pow_le_pow_right (by decide) hi)))]
theorem bts_mono (s : Nat) {i : Nat} : ∀ d, (bts i s).length ≤ (bts (i + d) s).length
  | 0 => Nat.le_refl _
  | d + 1 => by
    have := bts_mono s (i := i) d
    rw [show i + (d + 1) = i + d + 1 by omega, bts_s, List.length_append]
    omega
theorem s_layT {m : Nat} {S : jSt} {F : Nat → Nat → Int} (R : RI m S F) {N s : Nat} (hN : F 1 0 = (N : Int)) (h12 : N ≤ 12) (hs : s < 2 ^ N) (h5 : (bts N s).length ≤ 5) : ∃ F', f_X12_layTurn (m : Int) (s : Int) (rS m S F) = some (((bts N s).length : Int), rS m S F') ∧ RI m S F' ∧ (∀ i, i ≠ 10 → F' i = F i) ∧ ∀ k, k < (bts N s).length → F' 10 k = (((bts N s).getD k 0 : Nat) : Int) := by
  have N12 : 2 ^ N ≤ 4096 := Nat.pow_le_pow_right (n := 2) (by decide) h12
  unfold f_X12_layTurn f_X12_layTurn_b4
  refine lpe (fun (r : Int → Int → Int → Int → fK) i (c : Nat → Nat → Int) => r (m : Int) (s : Int) ((bts i s).length : Int) (i : Int) (rS m S c)) (fun i c => RI m S c ∧ (∀ j, j ≠ 10 → c j = F j) ∧ ∀ k, k < (bts i s).length → c 10 k = (((bts i s).getD k 0 : Nat) : Int)) (fun r => ∃ F', r = some (((bts N s).length : Int), rS m S F') ∧ RI m S F' ∧ (∀ i, i ≠ 10 → F' i = F i) ∧ ∀ k, k < (bts N s).length → F' 10 k = (((bts N s).getD k 0 : Nat) : Int)) (N := N) ?_ ?_ jN 0 F (by omega) (by unfold jN; omega) ⟨R, fun _ _ => rfl, fun k hk => absurd hk (by show ¬ k < 0; omega)⟩
  · intro r i c hi hinv ih
    obtain ⟨Rc, c1, c2⟩ := hinv
    show ∃ F', f_X12_layTurn_b4B r _ _ _ _ _ = _ ∧ _
    unfold f_X12_layTurn_b4B f_X12_layTurn_b35
    rw [r_a Rc, r_al Rc (by omega) (by omega), show (0 : Int).toNat = 0 from rfl, c1 1 (by omega), hN, if_neg (by omega), s_has (by omega) (by omega), fcall_some, if_b01]
    simp only [flet_eq]
    rw [w32_of (z := (i : Int) + 1) (by omega) (by omega), zs i]
    have bi := bts_s i s
    by_cases h : s.testBit i = true
    · rw [if_pos h] at bi
      have bl : (bts (i + 1) s).length = (bts i s).length + 1 := by rw [bi, List.length_append]; rfl
      have mo := bts_mono s (i := i + 1) (N - (i + 1))
      rw [show i + 1 + (N - (i + 1)) = N by omega] at mo
      rw [if_pos h, r_tu Rc, rt_10 Rc (by omega) (by omega), toNat_z, w32_of (by omega) (by omega), zs, ← bl]
      refine ih _ ⟨rV Rc (by omega) _, fun j hj => by rw [va_up_ne _ _ hj, c1 j hj], fun k hk => ?_⟩
      rw [va_up_self, bi, getD_app (by omega)]
      by_cases e : k < (bts i s).length
      · rw [if_pos e, va_up_ne _ _ (by omega)]; exact c2 k e
      · rw [if_neg e, show k = (bts i s).length by omega, va_up_self]
    · rw [if_neg h, List.append_nil] at bi
      rw [if_neg h]
      have := ih c ⟨Rc, c1, by rw [bi]; exact c2⟩
      rw [bi] at this
      exact this
  · intro r c hinv
    obtain ⟨Rc, c1, c2⟩ := hinv
    show ∃ F', f_X12_layTurn_b4B r _ _ _ _ _ = _ ∧ _
    unfold f_X12_layTurn_b4B
    rw [r_a Rc, r_al Rc (by omega) (by omega), show (0 : Int).toNat = 0 from rfl, c1 1 (by omega), hN, if_pos (by omega)]
    exact ⟨c, rfl, Rc, c1, c2⟩
/-- the whole of the reference, once the lots are sound -/
theorem s_ord45 {m : Nat} {S : jSt} {V : LwV} {F : Nat → Nat → Int} (h : RR m S V F) (wr : F 0 23 = 1) {N s n : Nat} (hN : F 1 0 = (N : Int)) (h12 : N ≤ 12) (hs : s < 2 ^ N) (hl : (bts N s).length = n) (hn : 1 ≤ n ∧ n ≤ 5) {x1 : Int} (hx : -1 ≤ x1 ∧ x1 < (n : Int)) (hin : ∀ l, s.testBit l = true → F 1 (12 + 5 * l) = 0) : ∃ F', f_X12_order_b45 (m : Int) (s : Int) x1 0 (rS m S F) = some (if x1 = -1 then ((cnd V N n (F 1) s).foldl bup (-1, [])).1 else ((((cnd V N n (F 1) s).foldl bup (-1, [])).2.getD x1.toNat 0 : Nat) : Int), rS m S F') ∧ RK m S F F' (F 1) := by
  have N12 : 2 ^ N ≤ 4096 := Nat.pow_le_pow_right (n := 2) (by decide) h12
  have R := h.1
  have w0 := h.2.1.1.1
  obtain ⟨F1, e1, R1, f1, g1⟩ := s_layT R hN h12 hs (by omega)
  rw [hl] at e1 g1
  obtain ⟨L, hL⟩ : ∃ L : Nat → Nat, L = fun k => (bts N s).getD k 0 := ⟨_, rfl⟩
  have gL : ∀ k (hk : k < (bts N s).length), L k = (bts N s)[k] := fun k hk => by
    rw [hL]
    show (bts N s).getD k 0 = _
    rw [List.getD_eq_getElem?_getD, List.getElem?_eq_getElem hk]
    rfl
  have mapL : (List.range n).map L = bts N s := by
    apply List.ext_getElem
    · rw [List.length_map, List.length_range, hl]
    · intro k h1 h2
      rw [List.getElem_map, List.getElem_range]
      exact gL k h2
  have srt : (bts N s).Pairwise (fun a b => a < b) := List.Pairwise.filter _ List.pairwise_lt_range
  have lt : ∀ i j, i < j → j < n → L i < L j := fun i j hij hj => by
    rw [gL i (by omega), gL j (by omega)]
    exact List.pairwise_iff_getElem.mp srt i j (by omega) (by omega) hij
  have hmo : ∀ i, i < n → ∀ j, j < n → (L i ≤ L j ↔ i ≤ j) := fun i hi j hj => by
    constructor
    · intro z
      rcases Nat.lt_or_ge j i with q | q
      · have := lt j i q hi
        omega
      · exact q
    · intro z
      rcases Nat.lt_or_ge i j with q | q
      · have := lt i j q hj
        omega
      · rw [show i = j by omega]
        exact Nat.le_refl _
  have hLb : ∀ i, i < n → ((L i : Nat) : Int) < F 1 0 := fun i hi => by
    have := (bts_m.mp (show L i ∈ bts N s by rw [gL i (by omega)]; exact List.getElem_mem _)).1
    omega
  obtain ⟨k1, k2, k3⟩ := chk_n hn.1 hn.2
  have st : f_X12_order_b45 (m : Int) (s : Int) x1 0 (rS m S F) = f_X12_order_b92 (m : Int) x1 (n : Int) (-1) 1 (rS m S F1) := by
    unfold f_X12_order_b45
    refine lp (fun (r : Int → Int → Int → Int → fK) i => r (m : Int) (s : Int) x1 (i : Int) (rS m S F)) (N := N) ?_ ?_ jN 0 (by omega) (by unfold jN; omega)
    · intro r i hi hr
      show f_X12_order_b45B r _ _ _ _ _ = _
      unfold f_X12_order_b45B f_X12_order_b74
      rw [r_a R, r_al R (by omega) (by omega), show (0 : Int).toNat = 0 from rfl, hN, if_neg (by omega), s_has (by omega) (by omega), fcall_some, if_b01]
      simp only [flet_eq]
      rw [w32_of (z := (i : Int) + 1) (by omega) (by omega), zs i]
      by_cases q : s.testBit i = true
      · rw [if_pos q, r_cv R, s_isInHouse R w0, fcall_some, if_b01, toNat_z, if_pos ⟨by omega, hin i q⟩]
        exact hr
      · rw [if_neg q]
        exact hr
    · intro r
      show f_X12_order_b45B r _ _ _ _ _ = _
      unfold f_X12_order_b45B
      rw [r_a R, r_al R (by omega) (by omega), show (0 : Int).toNat = 0 from rfl, hN, if_pos (by omega), r_cv R, e1, fcall_some]
  rw [st]
  unfold f_X12_order_b92
  have RR1 : RR m S V F1 := ⟨R1, by rw [f1 1 (by omega)]; exact h.2.1, by rw [f1 1 (by omega), f1 3 (by omega)]; exact h.2.2⟩
  have ps : ∀ q, q ∈ pms n (List.range n) → q.length = n ∧ ∀ y, y ∈ q → y < n := fun q hq => by
    obtain ⟨z1, z2⟩ := pms_m n _ q hq
    exact ⟨z1, fun y hy => List.mem_range.mp (z2 y hy)⟩
  have ce : cnd V N n (F 1) s = (pms n (List.range n)).map (fun q => (oT V (F 1) (q.map L), q.map L)) := by
    rw [cnd_pms, ← mapL, pms_map L n _ (fun y hy z hz e => by
      have hy := List.mem_range.mp hy
      have hz := List.mem_range.mp hz
      have a1 := (hmo y hy z hz).mp (by omega)
      have a2 := (hmo z hz y hy).mp (by omega)
      omega), List.map_map]
    rfl
  have first : ∃ r, pms n (List.range n) = List.range n :: r := by
    match n, hn with
    | 1, _ => exact ⟨_, rfl⟩
    | 2, _ => exact ⟨_, rfl⟩
    | 3, _ => exact ⟨_, rfl⟩
    | 4, _ => exact ⟨_, rfl⟩
    | 5, _ => exact ⟨_, rfl⟩
  obtain ⟨r, hr⟩ := first
  rw [hr] at k1 k2 ps ce
  have O1 : OI m S V F n ((List.range n).map L) (-1, []) F1 := ⟨RR1, f1 1 (by omega), fun k hk => by rw [f1 0 (by omega)], fun k hk => by rw [mapL]; exact g1 k hk, fun k hk => absurd hk (by show ¬ k < 0; omega), fun i i0 i6 i7 i8 i9 i10 i11 => f1 i i10⟩
  have := s_ordL (S := S) (V := V) wr hn hLb hmo hx r (List.range n) jN F1 (-1, []) k1 ps (by simp only [List.length_cons] at k2; unfold jN; omega) (Or.inr rfl) O1
  rw [← ce] at this
  exact this
end OO
section OG
variable {x : Nat}
theorem g_order (z i : Int) : Good x (f_X11_order (x : Int) z i) (f_X12_order ((x + 426 : Nat) : Int) z i) := Good_k (fun Z C F V R h T => by
  have I := CI_g (y := x + 426) (N := 12) (F := F) h.1.1
  have Rl := h.2.1
  have H := Rel_HR I Rl (TXT_C T)
  have W := INV_W h
  have w0 := W.1.1
  have wr := h.2.2.2.2.2.2
  obtain ⟨N, hN⟩ : ∃ N : Nat, F 1 0 = (N : Int) := ⟨(F 1 0).toNat, by omega⟩
  have N12 : 2 ^ N ≤ 4096 := Nat.pow_le_pow_right (n := 2) (by decide) (show N ≤ 12 by omega)
  have N1 : 0 < 2 ^ N := Nat.pow_pos (by decide)
  have T1 := Rl.1
  unfold f_X11_order f_X11_order_b36 f_X12_order f_X12_order_b40
  by_cases hL : 0 ≤ z ∧ z < ((2 ^ N : Nat) : Int)
  · obtain ⟨s, rfl⟩ : ∃ s : Nat, z = (s : Int) := ⟨z.toNat, by omega⟩
    have hs : s < 2 ^ N := by omega
    have bl := bts_len hs (by omega)
    have p31 := pcf_le 31 s
    obtain ⟨n, hn⟩ : ∃ n, n = pcf 31 s := ⟨_, rfl⟩
    rw [← hn] at bl p31
    have bc : ∀ S, f_J6_bitCount_0f7a4 (s : Int) S = some ((n : Int), S) := fun S => by rw [hn]; exact bcw S s (by omega)
    have sb : ∀ S2, f_X12_bits (s : Int) S2 = some ((n : Int), S2) := fun S2 => by rw [hn]; exact s_bits (by omega) S2
    by_cases hn5 : 1 ≤ n ∧ n ≤ 5
    · have s1 : 1 ≤ s := by
        rcases Nat.eq_zero_or_pos s with q | q
        · rw [q, pcf_0] at hn
          omega
        · exact q
      by_cases hi : -1 ≤ i ∧ i ≤ (n : Int) - 1
      · by_cases hin : ∀ l, s.testBit l = true → F 1 (12 + 5 * l) = 0
        · obtain ⟨C1, e1, I1, f1, g1, g2⟩ := c_copyFrom I iH420 iH14 (by omega)
          have X1 := HX_cp ⟨H.2.2.1, H.2.2.2.2.2 rfl, W⟩ g1 g2
          have H1 : HR false x (gS (x + 426) 12 Z F) V (F 1) C1 420 := ⟨I1, Td_fr H.2.1 (fun i h1 h2 => f1 i (by omega)), X1.1, W, by rw [f1 4 (by omega)]; exact H.2.2.2.2.1, fun z => Bool.noConfusion z⟩
          have I2 : CI x (gS (x + 426) 12 Z F) (va_up C1 417 (va_up (C1 417) 0 (-1))) := CI_up I1 rfl
          have H2 : HR false x (gS (x + 426) 12 Z F) V (F 1) (va_up C1 417 (va_up (C1 417) 0 (-1))) 420 := HR_f2 H1 I2 (fun j _ _ _ h4 _ _ => va_up_ne _ _ h4)
          obtain ⟨C3, v3, H3, _, b3, f3⟩ := c_tryO (N := N) (by omega) n 100 s 0 0 (F 1) _ [] (-1, []) (by omega) H2 hN hs bl (by omega) rfl hin (fun i hi => by omega) ⟨by rw [va_up_self, va_up_self], fun i hi => absurd hi (by show ¬ i < 0; omega)⟩ (by omega)
          have fe : (fun (b : Int × List Nat) (c : Int × List Nat) => bup b (0 + c.1, [] ++ c.2)) = bup := by
            funext b c
            rw [Int.zero_add, List.nil_append]
          rw [fe] at b3
          have I3 := H3.1
          have fl : ((cnd V N n (F 1) s).foldl bup (-1, [])).2.length = n := by
            refine bup_len _ _ (fun c hc => ?_) (Or.inr ⟨rfl, ?_⟩)
            · rw [cnd_pms] at hc
              obtain ⟨p, hp, rfl⟩ := List.mem_map.mp hc
              obtain ⟨p1, p2⟩ := pms_m n _ p hp
              have := (oT_b (V := V) p (F 1) W (fun l hl => by have := (bts_m.mp (p2 l hl)).1; omega)).1
              exact ⟨by show -1 < oT V (F 1) p; omega, p1⟩
            · intro q
              rw [cnd_pms] at q
              have q := List.map_eq_nil_iff.mp q
              obtain ⟨k, hk⟩ : ∃ k, n = k + 1 := ⟨n - 1, by omega⟩
              have ne : ∀ (k : Nat) (l : List Nat), l.Nodup → l.length = k → pms k l ≠ [] := fun k => by
                induction k with
                | zero => intro l _ _ h; cases h
                | succ k ih =>
                  intro l hd hl h
                  cases l with
                  | nil => exact absurd hl (by rw [List.length_nil]; omega)
                  | cons y l =>
                    unfold pms at h
                    rw [List.flatMap_cons, List.append_eq_nil_iff, List.map_eq_nil_iff] at h
                    rw [List.nodup_cons] at hd
                    rw [List.filter_cons_of_neg (by rw [beq_self_eq_true]; decide), List.filter_eq_self.mpr (fun w hw => by
                      rw [beq_false_of_ne (fun q => hd.1 (by rw [← q]; exact hw))]
                      rfl)] at h
                    exact ih l hd.2 (by rw [List.length_cons] at hl; omega) h.1
              exact ne n _ (List.Pairwise.filter _ List.nodup_range) bl q
          refine ⟨if i = -1 then ((cnd V N n (F 1) s).foldl bup (-1, [])).1 else ((((cnd V N n (F 1) s).foldl bup (-1, [])).2.getD i.toNat 0 : Nat) : Int), C3, F 1, ?_, I3, Rel_fr Rl (fun j a b => by rw [f3 j (by omega), va_up_ne _ _ (by omega), f1 j (by omega)]), ⟨by rw [f3 4 (by omega), va_up_ne _ _ (by omega), f1 4 (by omega)], fun j a b => by rw [f3 j (by omega), va_up_ne _ _ (by omega), f1 j (by omega)]⟩, rfl, fun S2 hS R2 => ?_⟩
          · rw [bc, fcall_some, cr0_0 I, cv_1 I, c_hasLots I T1 hN (by omega), fcall_some, if_b01, if_pos hL, s_within, fcall_some, if_b01, if_pos (by omega), s_within, fcall_some, if_b01, w32_of (by omega) (by omega), if_pos hi]
            unfold f_X11_order_b42
            refine lp (fun (r : Int → Int → Int → Int → fK) j => r (x : Int) (s : Int) i (j : Int) (cS x (gS (x + 426) 12 Z F) C)) (N := N) ?_ ?_ jN 0 (by omega) (by unfold jN; omega)
            · intro r j hj hr
              show f_X11_order_b42B r _ _ _ _ _ = _
              unfold f_X11_order_b42B f_X11_order_b79
              rw [cr0_0 I, cg_1 I, T1.1, hN, if_neg (by omega), bit_n (by omega) (by omega)]
              simp only [flet_eq]
              rw [w32_of (z := (j : Int) + 1) (by omega) (by omega), zs j]
              by_cases q : s.testBit j = true
              · rw [if_pos q, if_neg (by decide), cr0_1 I, crh_0 I iH14, alh_1 I iH14 (by omega) (by omega), toNat_z, (H.2.2.1.2.1 j (by omega)).1, if_pos (hin j q)]
                exact hr
              · rw [if_neg q, if_pos rfl]
                exact hr
            · intro r
              show f_X11_order_b42B r _ _ _ _ _ = _
              unfold f_X11_order_b42B f_X11_order_b132 f_X0_findOrder
              have v3' : f_X0_tryOrders ((x + 417 : Nat) : Int) ((x + 420 : Nat) : Int) (s : Int) 0 0 (cS x (gS (x + 426) 12 Z F) (va_up C1 417 (va_up (C1 417) 0 (-1)))) = some (0, cS x (gS (x + 426) 12 Z F) C3) := v3
              rw [cr0_0 I, cg_1 I, T1.1, hN, if_pos (by omega), cr0_10 I, cr0_1 I, cv_h I iH420, e1, fcall_some, cr0_9 I1, cr0_10 I1, c_v I1 (i := 417) (by decide) rfl, cp_417 I1, c_v I2 (i := 417) (by decide) rfl, v3', fcall_some, fcall_some]
              by_cases hi1 : i = -1
              · rw [if_pos hi1, if_pos hi1, cr0_9 I3, cg_417 I3, b3.1]
              · rw [if_neg hi1, if_neg hi1, cr0_9 I3, cr417_1 I3, al_418 I3 (by omega) (by omega), b3.2 i.toNat (by rw [fl]; omega)]
          · obtain ⟨F', q1, q2⟩ := s_ord45 R2 wr hN (by omega) hs bl hn5 (x1 := i) (by omega) hin
            refine ⟨F', ?_, q2⟩
            rw [r_a R2.1, r_al R2.1 (by omega) (by omega), show (0 : Int).toNat = 0 from rfl, hN, ishl_n (by omega), w32_of (z := ((2 ^ N : Nat) : Int) - 1) (by omega) (by omega), s_isIn, fcall_some, if_b01, if_pos (by omega), sb, fcall_some, if_neg (by omega), sb, fcall_some, s_isIn, fcall_some, if_b01, w32_of (by omega) (by omega), if_pos hi]
            exact q1
        · obtain ⟨l, l1, l2⟩ : ∃ l, s.testBit l = true ∧ ¬ F 1 (12 + 5 * l) = 0 := Classical.byContradiction (fun q => hin (fun l hl => Classical.byContradiction (fun w => q ⟨l, hl, w⟩)))
          have lN : l < N := by
            rcases Nat.lt_or_ge l N with q | q
            · exact q
            · rw [Nat.testBit_lt_two_pow (Nat.lt_of_lt_of_le hs (Nat.pow_le_pow_right (by decide) q))] at l1
              exact Bool.noConfusion l1
          refine ⟨-2, C, F 1, ?_, I, Rl, KF_r C, rfl, fun S2 hS R2 => ⟨F, ?_, RK_r R2.1⟩⟩
          · rw [bc, fcall_some, cr0_0 I, cv_1 I, c_hasLots I T1 hN (by omega), fcall_some, if_b01, if_pos hL, s_within, fcall_some, if_b01, if_pos (by omega), s_within, fcall_some, if_b01, w32_of (by omega) (by omega), if_pos hi]
            unfold f_X11_order_b42
            refine lpe (fun (r : Int → Int → Int → Int → fK) j (_ : Unit) => r (x : Int) (s : Int) i (j : Int) (cS x (gS (x + 426) 12 Z F) C)) (fun j _ => j ≤ l) (fun r => r = some (-2, cS x (gS (x + 426) 12 Z F) C)) (N := N) ?_ ?_ jN 0 () (by omega) (by unfold jN; omega) (by omega)
            · intro r j _ hj hinv ih
              show f_X11_order_b42B r _ _ _ _ _ = _
              unfold f_X11_order_b42B f_X11_order_b79
              rw [cr0_0 I, cg_1 I, T1.1, hN, if_neg (by omega), bit_n (by omega) (by omega)]
              simp only [flet_eq]
              rw [w32_of (z := (j : Int) + 1) (by omega) (by omega), zs j]
              by_cases q : s.testBit j = true
              · rw [if_pos q, if_neg (by decide), cr0_1 I, crh_0 I iH14, alh_1 I iH14 (by omega) (by omega), toNat_z, (H.2.2.1.2.1 j (by omega)).1]
                by_cases q2 : F 1 (12 + 5 * j) = 0
                · rw [if_pos q2]
                  refine ih () ?_
                  have : j ≠ l := fun w => l2 (by rw [← w]; exact q2)
                  omega
                · rw [if_neg q2]
              · rw [if_neg q, if_pos rfl]
                refine ih () ?_
                have : j ≠ l := fun w => q (by rw [w]; exact l1)
                omega
            · intro r _ hinv
              omega
          · have R := R2.1
            rw [r_a R, r_al R (by omega) (by omega), show (0 : Int).toNat = 0 from rfl, hN, ishl_n (by omega), w32_of (z := ((2 ^ N : Nat) : Int) - 1) (by omega) (by omega), s_isIn, fcall_some, if_b01, if_pos (by omega), sb, fcall_some, if_neg (by omega), sb, fcall_some, s_isIn, fcall_some, if_b01, w32_of (by omega) (by omega), if_pos hi]
            unfold f_X12_order_b45
            refine lpe (fun (r : Int → Int → Int → Int → fK) j (_ : Unit) => r ((x + 426 : Nat) : Int) (s : Int) i (j : Int) (rS (x + 426) S2 F)) (fun j _ => j ≤ l) (fun r => r = some (-2, rS (x + 426) S2 F)) (N := N) ?_ ?_ jN 0 () (by omega) (by unfold jN; omega) (by omega)
            · intro r j _ hj hinv ih
              show f_X12_order_b45B r _ _ _ _ _ = _
              unfold f_X12_order_b45B f_X12_order_b74
              rw [r_a R, r_al R (by omega) (by omega), show (0 : Int).toNat = 0 from rfl, hN, if_neg (by omega), s_has (by omega) (by omega), fcall_some, if_b01]
              simp only [flet_eq]
              rw [w32_of (z := (j : Int) + 1) (by omega) (by omega), zs j]
              by_cases q : s.testBit j = true
              · rw [if_pos q, r_cv R, s_isInHouse R w0, fcall_some, if_b01, toNat_z]
                by_cases q2 : F 1 (12 + 5 * j) = 0
                · rw [if_pos ⟨by omega, q2⟩]
                  refine ih () ?_
                  have : j ≠ l := fun w => l2 (by rw [← w]; exact q2)
                  omega
                · rw [if_neg (fun w => q2 w.2)]
              · rw [if_neg q]
                refine ih () ?_
                have : j ≠ l := fun w => q (by rw [w]; exact l1)
                omega
            · intro r _ hinv
              omega
      · refine ⟨-2, C, F 1, ?_, I, Rl, KF_r C, rfl, fun S2 hS R2 => ⟨F, ?_, RK_r R2.1⟩⟩
        · rw [bc, fcall_some, cr0_0 I, cv_1 I, c_hasLots I T1 hN (by omega), fcall_some, if_b01, if_pos hL, s_within, fcall_some, if_b01, if_pos (by omega), s_within, fcall_some, if_b01, w32_of (by omega) (by omega), if_neg hi]
        · have R := R2.1
          rw [r_a R, r_al R (by omega) (by omega), show (0 : Int).toNat = 0 from rfl, hN, ishl_n (by omega), w32_of (z := ((2 ^ N : Nat) : Int) - 1) (by omega) (by omega), s_isIn, fcall_some, if_b01, if_pos (by omega), sb, fcall_some, if_neg (by omega), sb, fcall_some, s_isIn, fcall_some, if_b01, w32_of (by omega) (by omega), if_neg hi]
    · refine ⟨-2, C, F 1, ?_, I, Rl, KF_r C, rfl, fun S2 hS R2 => ⟨F, ?_, RK_r R2.1⟩⟩
      · rw [bc, fcall_some, cr0_0 I, cv_1 I, c_hasLots I T1 hN (by omega), fcall_some, if_b01, if_pos hL, s_within, fcall_some, if_b01, if_neg (by omega)]
      · have R := R2.1
        rw [r_a R, r_al R (by omega) (by omega), show (0 : Int).toNat = 0 from rfl, hN, ishl_n (by omega), w32_of (z := ((2 ^ N : Nat) : Int) - 1) (by omega) (by omega), s_isIn, fcall_some, if_b01]
        by_cases s1 : 1 ≤ s
        · have : n ≠ 0 := fun q => by
            have := bts_nil hs (by rw [bl]; exact q)
            omega
          rw [if_pos (by omega), sb, fcall_some, if_pos (by omega)]
        · rw [if_neg (by omega)]
  · obtain ⟨v, hv⟩ := bca z
    refine ⟨-2, C, F 1, ?_, I, Rl, KF_r C, rfl, fun S2 hS R2 => ⟨F, ?_, RK_r R2.1⟩⟩
    · rw [hv, fcall_some, cr0_0 I, cv_1 I, c_hasLots I T1 hN (by omega), fcall_some, if_b01, if_neg hL]
    · have R := R2.1
      rw [r_a R, r_al R (by omega) (by omega), show (0 : Int).toNat = 0 from rfl, hN, ishl_n (by omega), w32_of (z := ((2 ^ N : Nat) : Int) - 1) (by omega) (by omega), s_isIn, fcall_some, if_b01, if_neg (by omega)])
end OG
