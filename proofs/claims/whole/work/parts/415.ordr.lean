-- order, the reference: what a turn brings
section OR
variable {m : Nat} {S : jSt} {V : LwV}
def PI (m : Nat) (S : jSt) (V : LwV) (F F1 : Nat → Nat → Int) (p : List Nat) (i : Nat) (c : Nat → Nat → Int) (sum : Int) (b : Nat → Int) : Prop := RR m S V c ∧ (∀ k, k ≠ 8 → c 1 k = b k) ∧ Wf b ∧ b 0 = F 1 0 ∧ oT V (F 1) p = sum + oT V b (p.drop i) ∧ (0 ≤ sum ∧ sum ≤ 9999 * (i : Int)) ∧ (∀ k, (k < 7 ∨ 141 ≤ k) → c 1 k = F 1 k) ∧ (∀ k, k ≠ 24 → c 0 k = F1 0 k) ∧ ∀ j, j ≠ 0 → j ≠ 1 → j ≠ 6 → j ≠ 7 → j ≠ 8 → c j = F1 j
theorem s_pot {F : Nat → Nat → Int} (h : RR m S V F) (wr : F 0 23 = 1) {n : Nat} (hn : n ≤ 5) {p : List Nat} (hp : p.length = n) (hm : ∀ y, y ∈ p → (y : Int) < F 1 0) (ht : ∀ k, k < n → F 10 k = ((p.getD k 0 : Nat) : Int)) : ∃ F', f_X12_pricesOfTurn (m : Int) (n : Int) (rS m S F) = some (oT V (F 1) p, rS m S F') ∧ RR m S V F' ∧ F' 1 = F 1 ∧ (∀ k, k ≠ 24 → F' 0 k = F 0 k) ∧ ∀ i, i ≠ 0 → i ≠ 6 → i ≠ 7 → i ≠ 8 → i ≠ 9 → F' i = F i := by
  have W := h.2.1
  have w0 := W.1.1
  obtain ⟨F1, e1, R1, f1, g1, ⟨z1, z2⟩, z3⟩ := s_aside h.1
  unfold f_X12_pricesOfTurn
  rw [r_cv h.1, e1, fcall_some]
  have E1 : F1 1 = F 1 := f1 1 (by omega) (by omega)
  have RR1 : RR m S V F1 := ⟨R1, by rw [E1]; exact W, by rw [E1, f1 3 (by omega) (by omega)]; exact h.2.2⟩
  have k0 : PI m S V F F1 p 0 F1 0 (F 1) := ⟨RR1, fun k _ => by rw [E1], W, rfl, by rw [List.drop_zero, Int.zero_add], by omega, fun k _ => by rw [E1], fun _ _ => rfl, fun _ _ _ _ _ _ => rfl⟩
  unfold f_X12_pricesOfTurn_b8
  refine lpe (fun (r : Int → Int → Int → Int → fK) i (c : (Nat → Nat → Int) × Int × (Nat → Int)) => r (m : Int) (n : Int) c.2.1 (i : Int) (rS m S c.1)) (fun i c => PI m S V F F1 p i c.1 c.2.1 c.2.2) (fun r => ∃ F', r = some (oT V (F 1) p, rS m S F') ∧ RR m S V F' ∧ F' 1 = F 1 ∧ (∀ k, k ≠ 24 → F' 0 k = F 0 k) ∧ ∀ i, i ≠ 0 → i ≠ 6 → i ≠ 7 → i ≠ 8 → i ≠ 9 → F' i = F i) (N := n) ?_ ?_ jN 0 (F1, 0, F 1) (by omega) (by unfold jN; omega) k0
  · intro r i c hi hinv ih
    obtain ⟨c, sum, b⟩ := c
    obtain ⟨Rc, c8, Wb, b0, bt, bs, cf, c0, cj⟩ := (show PI m S V F F1 p i c sum b from hinv)
    show ∃ F', f_X12_pricesOfTurn_b8B r _ _ _ _ _ = _ ∧ _
    unfold f_X12_pricesOfTurn_b8B f_X12_pricesOfTurn_b38
    have hip : i < p.length := by omega
    have gp : p.getD i 0 = p[i] := by rw [List.getD_eq_getElem?_getD, List.getElem?_eq_getElem hip]; rfl
    have hl : ((p[i] : Nat) : Int) < F 1 0 := hm _ (List.getElem_mem hip)
    have e10 : c 10 i = ((p[i] : Nat) : Int) := by rw [cj 10 (by omega) (by omega) (by omega) (by omega) (by omega), f1 10 (by omega) (by omega), ht i hi, gp]
    have c1 : c 1 0 = F 1 0 := cf 0 (by omega)
    obtain ⟨F', p1, p2⟩ := s_sellNow (wr := false) Rc (by rw [c0 23 (by omega), z1]; rfl) (l := p[i]) (by rw [c1]; exact hl)
    obtain ⟨w1, w2⟩ := win_8 (V := V) c8 p[i]
    rw [w1, w2] at p1
    obtain ⟨p3, p4, p5, p6, p7⟩ := p2
    obtain ⟨o1, o2, o3, o4, o5⟩ := oA_W (V := V) Wb (l := p[i]) (by rw [b0]; exact hl)
    have dr : p.drop i = p[i] :: p.drop (i + 1) := List.drop_eq_getElem_cons hip
    rw [dr] at bt
    have bt2 : oT V (F 1) p = sum + oP V b p[i] + oT V (oA V b p[i]) (p.drop (i + 1)) := by
      rw [bt]
      show sum + (oP V b p[i] + oT V (oA V b p[i]) (p.drop (i + 1))) = _
      omega
    have k1 : PI m S V F F1 p (i + 1) F' (sum + oP V b p[i]) (oA V b p[i]) := ⟨p3, fun k hk => by rw [p4]; exact sel_8 c8 _ k hk, o1, by rw [o2 0 (by omega), b0], bt2, by omega, fun k hk => by rw [p4, sel_8 c8 _ k (by omega), o2 k (by omega), ← c8 k (by omega), cf k hk], fun k hk => by rw [p6 k hk, c0 k hk], fun j j0 j1 j6 j7 j8 => by rw [p7 j j0 j1 j6 j7 j8, cj j j0 j1 j6 j7 j8]⟩
    have nxt : ∃ F'', r (m : Int) (n : Int) (sum + oP V b p[i]) ((i + 1 : Nat) : Int) (rS m S F') = some (oT V (F 1) p, rS m S F'') ∧ RR m S V F'' ∧ F'' 1 = F 1 ∧ (∀ k, k ≠ 24 → F'' 0 k = F 0 k) ∧ ∀ i, i ≠ 0 → i ≠ 6 → i ≠ 7 → i ≠ 8 → i ≠ 9 → F'' i = F i := ih (F', sum + oP V b p[i], oA V b p[i]) k1
    rw [if_neg (by omega), r_tu Rc.1, ra_10 Rc.1 (by omega) (by omega), toNat_z, e10, r_cv Rc.1, p1, fcall_some]
    simp only [flet_eq]
    rw [w32_of (z := (i : Int) + 1) (by omega) (by omega), zs]
    by_cases q : winv b V p[i] = -1
    · have eP : oP V b p[i] = 0 := by unfold oP; rw [if_pos q]
      rw [eP] at nxt
      rw [if_pos q, if_pos rfl, w32_of (by omega) (by omega)]
      exact nxt
    · have eP : oP V b p[i] = pricev b V p[i] := by unfold oP; rw [if_neg q]
      rw [eP] at nxt o4 o5
      rw [if_neg q, if_neg (by omega), w32_of (by omega) (by omega)]
      exact nxt
  · intro r c hinv
    obtain ⟨c, sum, b⟩ := c
    obtain ⟨Rc, c8, Wb, b0, bt, bs, cf, c0, cj⟩ := (show PI m S V F F1 p n c sum b from hinv)
    obtain ⟨F', p1, p2, p3, p4, p5, p6⟩ := s_putB Rc.1
    have es : oT V (F 1) p = sum := by
      rw [bt, List.drop_eq_nil_of_le (by omega)]
      show sum + 0 = sum
      omega
    have F11 : F' 1 = F 1 := by
      funext k
      rw [p4 k]
      by_cases z : 7 ≤ k ∧ k < 141
      · rw [if_pos z, cj 9 (by omega) (by omega) (by omega) (by omega) (by omega), g1 k z.1 z.2]
      · rw [if_neg z, cf k (by omega)]
    have fr : ∀ i, i ≠ 0 → i ≠ 6 → i ≠ 7 → i ≠ 8 → i ≠ 9 → F' i = F i := fun i i0 i6 i7 i8 i9 => by
      by_cases i1 : i = 1
      · subst i1; exact F11
      · rw [p3 i i0 i1, cj i i0 i1 i6 i7 i8, f1 i i0 i9]
    show ∃ F', f_X12_pricesOfTurn_b8B r _ _ _ _ _ = _ ∧ _
    unfold f_X12_pricesOfTurn_b8B
    rw [if_pos (by omega), r_cv Rc.1, p1, fcall_some, es]
    refine ⟨F', rfl, ⟨p2, by rw [F11]; exact W, by rw [F11, fr 3 (by omega) (by omega) (by omega) (by omega) (by omega)]; exact h.2.2⟩, F11, fun k hk => ?_, fr⟩
    by_cases k23 : k = 23
    · subst k23; rw [p5, wr]
    · rw [p6 k k23, c0 k hk, z3 k k23 hk]
theorem chk_c1 {n : Nat} {p : List Nat} (h : chkL n [p] = true) : nx n (fnI p) = none := by
  unfold chkL at h
  cases e : nx n (fnI p) with
  | none => rfl
  | some u =>
    rw [e] at h
    exact Bool.noConfusion h
theorem chk_c2 {n : Nat} {p q : List Nat} {r : List (List Nat)} (h : chkL n (p :: q :: r) = true) : (∃ u, nx n (fnI p) = some u ∧ ∀ k, k < n → u k = fnI q k) ∧ chkL n (q :: r) = true := by
  rw [show chkL n (p :: q :: r) = ((match q :: r, nx n (fnI p) with
    | [], none => true
    | q :: _, some u => (List.range n).all (fun k => decide (u k = fnI q k))
    | _, _ => false) && chkL n (q :: r)) from rfl, Bool.and_eq_true] at h
  refine ⟨?_, h.2⟩
  have h1 := h.1
  cases e : nx n (fnI p) with
  | none =>
    rw [e] at h1
    exact Bool.noConfusion h1
  | some u =>
    rw [e] at h1
    refine ⟨u, rfl, fun k hk => ?_⟩
    have h2 : (List.range n).all (fun k => decide (u k = fnI q k)) = true := h1
    exact of_decide_eq_true (List.all_eq_true.mp h2 k (List.mem_range.mpr hk))
/-- the state between two turns -/
def OI (m : Nat) (S : jSt) (V : LwV) (F : Nat → Nat → Int) (n : Nat) (t : List Nat) (b : Int × List Nat) (c : Nat → Nat → Int) : Prop := RR m S V c ∧ c 1 = F 1 ∧ (∀ k, k ≠ 24 → c 0 k = F 0 k) ∧ (∀ k, k < n → c 10 k = ((t.getD k 0 : Nat) : Int)) ∧ (∀ k, k < b.2.length → c 11 k = ((b.2.getD k 0 : Nat) : Int)) ∧ ∀ i, i ≠ 0 → i ≠ 6 → i ≠ 7 → i ≠ 8 → i ≠ 9 → i ≠ 10 → i ≠ 11 → c i = F i
theorem map_gD (L : Nat → Nat) {p : List Nat} {k : Nat} (hk : k < p.length) : (p.map L).getD k 0 = L (p.getD k 0) := by
  rw [List.getD_eq_getElem?_getD, List.getD_eq_getElem?_getD, List.getElem?_map, List.getElem?_eq_getElem hk]
  rfl
theorem s_ord1 {F : Nat → Nat → Int} (wr : F 0 23 = 1) {n : Nat} (hn : 1 ≤ n ∧ n ≤ 5) {t : List Nat} (ht : t.length = n) (hm : ∀ y, y ∈ t → (y : Int) < F 1 0) {x1 : Int} {bt : Int × List Nat} {c : Nat → Nat → Int} (hO : OI m S V F n t bt c) (rr : Int → Int → Int → Int → Int → fK) : ∃ c1, f_X12_order_b92B rr (m : Int) x1 (n : Int) bt.1 1 (rS m S c) = f_X12_order_b144 rr (m : Int) x1 (n : Int) (bup bt (oT V (F 1) t, t)).1 (rS m S c1) ∧ OI m S V F n t (bup bt (oT V (F 1) t, t)) c1 := by
  obtain ⟨Rc, c1, c0, ct, cb, cf⟩ := hO
  obtain ⟨F1, e1, R1, f11, f10, ff⟩ := s_pot Rc (by rw [c0 23 (by omega)]; exact wr) hn.2 ht (by rw [c1]; exact hm) ct
  rw [c1] at e1 f11
  have g0 : ∀ k, k ≠ 24 → F1 0 k = F 0 k := fun k hk => by rw [f10 k hk, c0 k hk]
  have gt : ∀ k, k < n → F1 10 k = ((t.getD k 0 : Nat) : Int) := fun k hk => by rw [ff 10 (by omega) (by omega) (by omega) (by omega) (by omega)]; exact ct k hk
  have gf : ∀ i, i ≠ 0 → i ≠ 6 → i ≠ 7 → i ≠ 8 → i ≠ 9 → i ≠ 10 → i ≠ 11 → F1 i = F i := fun i i0 i6 i7 i8 i9 i10 i11 => by rw [ff i i0 i6 i7 i8 i9, cf i i0 i6 i7 i8 i9 i10 i11]
  unfold f_X12_order_b92B
  rw [if_neg (by decide), r_cv Rc.1, e1, fcall_some]
  unfold bup
  by_cases q : oT V (F 1) t ≤ bt.1
  · rw [if_pos q, if_neg (by show ¬ bt.1 < oT V (F 1) t; omega)]
    exact ⟨F1, rfl, R1, f11, g0, gt, fun k hk => by rw [ff 11 (by omega) (by omega) (by omega) (by omega) (by omega)]; exact cb k hk, gf⟩
  · rw [if_neg q, if_pos (by show bt.1 < oT V (F 1) t; omega)]
    unfold f_X12_order_b118
    refine lpe (fun (r : Int → Int → Int → Int → Int → fK) i (c : Nat → Nat → Int) => r (m : Int) x1 (n : Int) (oT V (F 1) t) (i : Int) (rS m S c)) (fun i c => RI m S c ∧ (∀ j, j ≠ 11 → c j = F1 j) ∧ ∀ k, k < i → c 11 k = ((t.getD k 0 : Nat) : Int)) (fun r => ∃ c1, r = f_X12_order_b144 rr (m : Int) x1 (n : Int) (oT V (F 1) t) (rS m S c1) ∧ OI m S V F n t (oT V (F 1) t, t) c1) (N := n) ?_ ?_ jN 0 F1 (by omega) (by unfold jN; omega) ⟨R1.1, fun _ _ => rfl, fun k hk => by omega⟩
    · intro r i c hi hinv ih
      obtain ⟨Ri, h1, h2⟩ := hinv
      show ∃ c1, f_X12_order_b118B rr r _ _ _ _ _ _ = _ ∧ _
      unfold f_X12_order_b118B
      rw [if_neg (by omega), r_bt Ri, r_tu Ri, ra_10 Ri (by omega) (by omega), toNat_z, rt_11 Ri (by omega) (by omega), toNat_z, flet_eq, w32_of (by omega) (by omega), zs]
      refine ih _ ⟨rV Ri (by omega) _, fun j hj => by rw [va_up_ne _ _ hj, h1 j hj], fun k hk => ?_⟩
      rw [va_up_self]
      by_cases e : k = i
      · subst e; rw [va_up_self, h1 10 (by omega)]; exact gt k hi
      · rw [va_up_ne _ _ e]; exact h2 k (by omega)
    · intro r c hinv
      obtain ⟨Ri, h1, h2⟩ := hinv
      show ∃ c1, f_X12_order_b118B rr r _ _ _ _ _ _ = _ ∧ _
      unfold f_X12_order_b118B
      rw [if_pos (by omega)]
      refine ⟨c, rfl, ⟨Ri, by rw [h1 1 (by omega)]; exact R1.2.1, by rw [h1 1 (by omega), h1 3 (by omega)]; exact R1.2.2⟩, by rw [h1 1 (by omega)]; exact f11, fun k hk => by rw [h1 0 (by omega)]; exact g0 k hk, fun k hk => by rw [h1 10 (by omega)]; exact gt k hk, fun k hk => h2 k (by rw [← ht]; exact hk), fun i i0 i6 i7 i8 i9 i10 i11 => by rw [h1 i i11]; exact gf i i0 i6 i7 i8 i9 i10 i11⟩
theorem OI_K {F c : Nat → Nat → Int} {n : Nat} {t : List Nat} {b : Int × List Nat} (h : OI m S V F n t b c) : RK m S F c (F 1) := ⟨h.1.1, h.2.1, fun i h1 h2 => h.2.2.2.2.2 i (by omega) (by omega) (by omega) (by omega) (by omega) (by omega) (by omega), fun k hk => h.2.2.1 k (by omega)⟩
theorem s_ordL {F : Nat → Nat → Int} (wr : F 0 23 = 1) {n : Nat} (hn : 1 ≤ n ∧ n ≤ 5) {L : Nat → Nat} (hL : ∀ i, i < n → ((L i : Nat) : Int) < F 1 0) (hmo : ∀ i, i < n → ∀ j, j < n → (L i ≤ L j ↔ i ≤ j)) {x1 : Int} (hx : -1 ≤ x1 ∧ x1 < (n : Int)) : ∀ (r : List (List Nat)) (p : List Nat) (fuel : Nat) (c : Nat → Nat → Int) (bt : Int × List Nat), chkL n (p :: r) = true → (∀ q, q ∈ p :: r → q.length = n ∧ ∀ y, y ∈ q → y < n) → r.length + 2 ≤ fuel → (bt.2.length = n ∨ bt.1 = -1) → OI m S V F n (p.map L) bt c → ∃ c', jrep (fun _ _ _ _ _ _ => none) (fun r => f_X12_order_b92B r) fuel (m : Int) x1 (n : Int) bt.1 1 (rS m S c) = some (if x1 = -1 then (((p :: r).map (fun q => (oT V (F 1) (q.map L), q.map L))).foldl bup bt).1 else (((((p :: r).map (fun q => (oT V (F 1) (q.map L), q.map L))).foldl bup bt).2.getD x1.toNat 0 : Nat) : Int), rS m S c') ∧ RK m S F c' (F 1) := by
  intro r
  induction r with
  | nil =>
    intro p fuel c bt hch hq hfu hbl hO
    obtain ⟨f, rfl⟩ : ∃ f, fuel = f + 2 := ⟨fuel - 2, by simp only [List.length_nil] at hfu; omega⟩
    obtain ⟨q1, q2⟩ := hq p (List.mem_cons_self ..)
    have tl : (p.map L).length = n := by rw [List.length_map, q1]
    have W := hO.1.2.1
    rw [hO.2.1] at W
    have tm : ∀ y, y ∈ p.map L → (y : Int) < F 1 0 := fun y hy => by
      obtain ⟨z, hz, rfl⟩ := List.mem_map.mp hy
      exact hL z (q2 z hz)
    have tb := oT_b (V := V) (p.map L) (F 1) W tm
    rw [jrep_s, jrep_s]
    generalize jrep (fun _ _ _ _ _ _ => none) (fun r => f_X12_order_b92B r) f = g
    obtain ⟨c1, e1, O1⟩ := s_ord1 wr hn tl tm hO (x1 := x1) (f_X12_order_b92B g)
    rw [e1]
    have R1 := O1.1.1
    have nn : nx n (c1 10) = none := (nx_e (M := fun z => ((L z.toNat : Nat) : Int)) (u := fnI p) (t := c1 10) hn.1 (fun i hi j hj => by
      rw [O1.2.2.2.1 i hi, O1.2.2.2.1 j hj, map_gD L (by omega), map_gD L (by omega)]
      have hi2 : p.getD i 0 < n := q2 _ (by rw [List.getD_eq_getElem?_getD, List.getElem?_eq_getElem (by omega)]; exact List.getElem_mem _)
      have hj2 : p.getD j 0 < n := q2 _ (by rw [List.getD_eq_getElem?_getD, List.getElem?_eq_getElem (by omega)]; exact List.getElem_mem _)
      have := hmo _ hi2 _ hj2
      unfold fnI
      omega) (fun k hk => by
      rw [O1.2.2.2.1 k hk, map_gD L (by omega)]
      unfold fnI
      rw [toNat_z])).1 (chk_c1 hch)
    have sn := s_next R1 hn
    rw [nn] at sn
    have bl : (bup bt (oT V (F 1) (p.map L), p.map L)).2.length = n := by
      unfold bup
      by_cases z : bt.1 < oT V (F 1) (p.map L)
      · rw [if_pos z]; exact tl
      · rw [if_neg z]
        rcases hbl with hb | hb
        · exact hb
        · omega
    unfold f_X12_order_b144
    rw [r_cv R1, sn, fcall_some]
    unfold f_X12_order_b92B f_X12_order_b170
    refine ⟨c1, ?_, OI_K O1⟩
    rw [if_pos rfl]
    show _ = some (if x1 = -1 then (bup bt (oT V (F 1) (p.map L), p.map L)).1 else (((bup bt (oT V (F 1) (p.map L), p.map L)).2.getD x1.toNat 0 : Nat) : Int), rS m S c1)
    by_cases hx1 : x1 = -1
    · rw [if_pos hx1, if_pos hx1]
    · rw [if_neg hx1, if_neg hx1, r_bt R1, ra_11 R1 (by omega) (by omega), O1.2.2.2.2.1 x1.toNat (by rw [bl]; omega)]
  | cons q r ih =>
    intro p fuel c bt hch hq hfu hbl hO
    obtain ⟨f, rfl⟩ : ∃ f, fuel = f + 1 := ⟨fuel - 1, by omega⟩
    obtain ⟨q1, q2⟩ := hq p (List.mem_cons_self ..)
    have tl : (p.map L).length = n := by rw [List.length_map, q1]
    have W := hO.1.2.1
    rw [hO.2.1] at W
    have tm : ∀ y, y ∈ p.map L → (y : Int) < F 1 0 := fun y hy => by
      obtain ⟨z, hz, rfl⟩ := List.mem_map.mp hy
      exact hL z (q2 z hz)
    have tb := oT_b (V := V) (p.map L) (F 1) W tm
    obtain ⟨⟨u, u1, u2⟩, ch2⟩ := chk_c2 hch
    rw [jrep_s]
    obtain ⟨g, hg⟩ : ∃ g, g = jrep (fun _ _ _ _ _ _ => none) (fun r => f_X12_order_b92B r) f := ⟨_, rfl⟩
    rw [← hg]
    obtain ⟨c1, e1, O1⟩ := s_ord1 wr hn tl tm hO (x1 := x1) g
    rw [e1]
    have R1 := O1.1.1
    obtain ⟨t', n1, n2⟩ := (nx_e (M := fun z => ((L z.toNat : Nat) : Int)) (u := fnI p) (t := c1 10) hn.1 (fun i hi j hj => by
      rw [O1.2.2.2.1 i hi, O1.2.2.2.1 j hj, map_gD L (by omega), map_gD L (by omega)]
      have hi2 : p.getD i 0 < n := q2 _ (by rw [List.getD_eq_getElem?_getD, List.getElem?_eq_getElem (by omega)]; exact List.getElem_mem _)
      have hj2 : p.getD j 0 < n := q2 _ (by rw [List.getD_eq_getElem?_getD, List.getElem?_eq_getElem (by omega)]; exact List.getElem_mem _)
      have := hmo _ hi2 _ hj2
      unfold fnI
      omega) (fun k hk => by
      rw [O1.2.2.2.1 k hk, map_gD L (by omega)]
      unfold fnI
      rw [toNat_z])).2 u u1
    have sn := s_next R1 hn
    rw [n1] at sn
    have bl : (bup bt (oT V (F 1) (p.map L), p.map L)).2.length = n := by
      unfold bup
      by_cases z : bt.1 < oT V (F 1) (p.map L)
      · rw [if_pos z]; exact tl
      · rw [if_neg z]
        rcases hbl with hb | hb
        · exact hb
        · omega
    unfold f_X12_order_b144
    rw [r_cv R1, sn, fcall_some]
    have q3 := hq q (List.mem_cons_of_mem _ (List.mem_cons_self ..))
    have O2 : OI m S V F n (q.map L) (bup bt (oT V (F 1) (p.map L), p.map L)) (va_up c1 10 t') := ⟨⟨rV R1 (by omega) _, by rw [va_up_ne _ _ (by decide)]; exact O1.1.2.1, by rw [va_up_ne _ _ (by decide), va_up_ne _ _ (by decide)]; exact O1.1.2.2⟩, by rw [va_up_ne _ _ (by decide)]; exact O1.2.1, fun k hk => by rw [va_up_ne _ _ (by decide)]; exact O1.2.2.1 k hk, fun k hk => by
      rw [va_up_self, n2 k hk, u2 k hk, map_gD L (by omega)]
      unfold fnI
      rw [toNat_z], fun k hk => by rw [va_up_ne _ _ (by decide)]; exact O1.2.2.2.2.1 k hk, fun i i0 i6 i7 i8 i9 i10 i11 => by rw [va_up_ne _ _ i10]; exact O1.2.2.2.2.2 i i0 i6 i7 i8 i9 i10 i11⟩
    have := ih q f (va_up c1 10 t') (bup bt (oT V (F 1) (p.map L), p.map L)) ch2 (fun z hz => hq z (List.mem_cons_of_mem _ hz)) (by simp only [List.length_cons] at hfu; omega) (Or.inl bl) O2
    rw [← hg] at this
    exact this
end OR
