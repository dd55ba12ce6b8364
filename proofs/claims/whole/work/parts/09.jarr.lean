section JA
variable {G : jG} {y : MethodName} {cc : ByteArray} {nL : Nat} {rT : Option FieldType} {d : Nat} {S0 S : jSt} {pc : Nat} {lv : jLv} {st : jSk} {o : Option (Int × jSt)}
theorem j_laload {a i : Int} {f : Int → Option (Int × jSt)} (hi : R32 i) (hd : decode cc pc = .ok (.laload, 1)) (h : ∀ z : Int, R64 z → J G y cc nL rT d S0 (pc + 1) lv ((1, z) :: st) S (f z)) : J G y cc nL rT d S0 pc lv ((0, i) :: (2, a) :: st) S (fald S a i 2 f) := by
  unfold fald
  refine j_guard fun hq => ?_
  have hp := jpair hq.1
  intro hwf
  refine j_rd (st' := (1, jg S a i.toNat) :: st) (fun ok hR kk => ?_) (h (jg S a i.toNat) (by
    have h9 := hwf a.toNat i.toNat
    rw [show S.2.2.1 a.toNat = (2, (jty S a).2) from hp] at h9
    exact h9)) hwf
  have hg := hR.get hp (Nat.le_of_ble_eq_true rfl)
  refine va_lald (D := G.2.2.1) (cl := vwCl) (tys := jtys G) (ws := jwd G S) ok.1 ok.2.1 ok.2.2.2.2.2.1.1 hR.2.2.2.1 _ 1 hg rfl (jin_of hi hq.2.1 hq.2.2) hd ?_
  rw [jclamp_of hi hq.2.1]
  exact kk
theorem j_baload {a i : Int} {f : Int → Option (Int × jSt)} (hi : R32 i) (hd : decode cc pc = .ok (.baload, 1)) (h : ∀ z : Int, (z = 0 ∨ z = 1) → J G y cc nL rT d S0 (pc + 1) lv ((0, z) :: st) S (f z)) : J G y cc nL rT d S0 pc lv ((0, i) :: (2, a) :: st) S (fald S a i 3 f) := by
  unfold fald
  refine j_guard fun hq => ?_
  have hp := jpair hq.1
  intro hwf
  refine j_rd (st' := (0, jg S a i.toNat) :: st) (fun ok hR kk => ?_) (h (jg S a i.toNat) (by
    have h9 := hwf a.toNat i.toNat
    rw [show S.2.2.1 a.toNat = (3, (jty S a).2) from hp] at h9
    exact h9)) hwf
  have hg := hR.get hp (Nat.le_of_ble_eq_true rfl)
  refine va_zald (D := G.2.2.1) (cl := vwCl) (tys := jtys G) (ws := jwd G S) ok.1 ok.2.1 ok.2.2.2.2.2.1.1 hR.2.2.2.1 _ 2 hg rfl (jin_of hi hq.2.1 hq.2.2) hd ?_
  rw [jclamp_of hi hq.2.1]
  exact kk
theorem jrf_opt (z : Int) : va_rf (jopt z) = jval (3, z) := by
  unfold jopt
  by_cases h : z < 0
  · rw [if_pos h, jval3n h]; rfl
  · rw [if_neg h, jval3r h]; rfl
theorem j_aaload4 {a i : Int} {f : Int → Option (Int × jSt)} (hi : R32 i) (hd : decode cc pc = .ok (.aaload, 1)) (h : ∀ z : Int, J G y cc nL rT d S0 (pc + 1) lv ((3, z) :: st) S (f z)) : J G y cc nL rT d S0 pc lv ((0, i) :: (2, a) :: st) S (fald S a i 4 f) := by
  unfold fald
  refine j_guard fun hq => ?_
  have hp := jpair hq.1
  refine j_rd (st' := (3, jg S a i.toNat) :: st) (fun ok hR kk => ?_) (h (jg S a i.toNat))
  have hg := hR.get hp (Nat.le_of_ble_eq_true rfl)
  refine va_aldq (C := RX1) (D := G.2.2.1) (cl := vwCl) (tys := jtys G) (ws := jwd G S) ok.1 ok.2.1 ok.2.2.2.2.2.1.1 hR.2.2.2.1 _ 3 hg rfl (jin_of hi hq.2.1 hq.2.2) hd ?_
  rw [jclamp_of hi hq.2.1, jrf_opt]
  exact kk
theorem j_aaload5 {a i : Int} {f : Int → Option (Int × jSt)} (hi : R32 i) (hd : decode cc pc = .ok (.aaload, 1)) (h : ∀ z : Int, J G y cc nL rT d S0 (pc + 1) lv ((3, z) :: st) S (f z)) : J G y cc nL rT d S0 pc lv ((0, i) :: (2, a) :: st) S (fald S a i 5 f) := by
  unfold fald
  refine j_guard fun hq => ?_
  have hp := jpair hq.1
  refine j_rd (st' := (3, jg S a i.toNat) :: st) (fun ok hR kk => ?_) (h (jg S a i.toNat))
  have hg := hR.get hp (Nat.le_of_ble_eq_true rfl)
  refine va_aldq (C := RX6) (D := G.2.2.1) (cl := vwCl) (tys := jtys G) (ws := jwd G S) ok.1 ok.2.1 ok.2.2.2.2.2.1.1 hR.2.2.2.1 _ 4 hg rfl (jin_of hi hq.2.1 hq.2.2) hd ?_
  rw [jclamp_of hi hq.2.1, jrf_opt]
  exact kk
theorem j_iastore {a i z : Int} {f : jSt → Option (Int × jSt)} (hi : R32 i) (hz : R32 z) (hd : decode cc pc = .ok (.iastore, 1)) (h : ∀ S1 : jSt, J G y cc nL rT d S0 (pc + 1) lv st S1 (f S1)) : J G y cc nL rT d S0 pc lv ((0, z) :: (0, i) :: (2, a) :: st) S (fast S a i 1 z f) := by
  unfold fast
  refine j_guard fun hq => ?_
  have hp := jpair hq.1
  refine j_wr (k := i.toNat) (z := z) (t := (1, (jty S a).2)) (en := .inl (G.2.2.2.1 1, (jty S a).2, .inl (upd (fun j => Int32.ofInt (S.2.2.2 a.toNat j)) i.toNat (Int32.ofInt z)))) hp (Nat.le_of_ble_eq_true rfl) hz (fun v hv => ?_) (fun ok hR hS kk => ?_) (h _)
  · subst hv
    show _ = (Sum.inl (G.2.2.2.1 1, (jty S a).2, .inl fun j => Int32.ofInt (va_up (S.2.2.2 a.toNat) i.toNat z j)) : va_E)
    congr 4
    funext j
    unfold upd va_up
    by_cases hj : j = i.toNat
    · rw [if_pos hj, if_pos hj]
    · rw [if_neg hj, if_neg hj]
  · have hg := hR.get hp (Nat.le_of_ble_eq_true rfl)
    refine va_iast (D := G.2.2.1) (cl := vwCl) (tys := jtys G) (ws := jwd G S) ok.1 ok.2.1 ok.2.2.2.2.2.1.1 hR.2.2.2.1 jwd_D hS _ 0 hg rfl (jin_of hi hq.2.1 hq.2.2) hd (fun H1 locs1 hP1 _ hS1 => kk H1 locs1 ?_ hS1)
    rw [jclamp_of hi hq.2.1] at hP1
    exact hP1
theorem j_lastore {a i z : Int} {f : jSt → Option (Int × jSt)} (hi : R32 i) (hz : R64 z) (hd : decode cc pc = .ok (.lastore, 1)) (h : ∀ S1 : jSt, J G y cc nL rT d S0 (pc + 1) lv st S1 (f S1)) : J G y cc nL rT d S0 pc lv ((1, z) :: (0, i) :: (2, a) :: st) S (fast S a i 2 z f) := by
  unfold fast
  refine j_guard fun hq => ?_
  have hp := jpair hq.1
  refine j_wr (k := i.toNat) (z := z) (t := (2, (jty S a).2)) (en := .inl (G.2.2.2.1 2, (jty S a).2, .inr (.inl (vp_updL (fun j => Int64.ofInt (S.2.2.2 a.toNat j)) i.toNat (Int64.ofInt z))))) hp (Nat.le_of_ble_eq_true rfl) hz (fun v hv => ?_) (fun ok hR hS kk => ?_) (h _)
  · subst hv
    show _ = (Sum.inl (G.2.2.2.1 2, (jty S a).2, .inr (.inl fun j => Int64.ofInt (va_up (S.2.2.2 a.toNat) i.toNat z j))) : va_E)
    congr 5
    funext j
    unfold vp_updL va_up
    by_cases hj : j = i.toNat
    · rw [if_pos hj, if_pos hj]
    · rw [if_neg hj, if_neg hj]
  · have hg := hR.get hp (Nat.le_of_ble_eq_true rfl)
    refine va_last (D := G.2.2.1) (cl := vwCl) (tys := jtys G) (ws := jwd G S) ok.1 ok.2.1 ok.2.2.2.2.2.1.1 hR.2.2.2.1 jwd_D hS _ 1 hg rfl (jin_of hi hq.2.1 hq.2.2) hd (fun H1 locs1 hP1 _ hS1 => kk H1 locs1 ?_ hS1)
    rw [jclamp_of hi hq.2.1] at hP1
    exact hP1
theorem jnar_bool {z : Int} (hz : z = 0 ∨ z = 1) : vp_nar .boolean (Int32.ofInt z) = Int32.ofInt z := by
  rcases hz with rfl | rfl <;> decide
theorem j_bastore {a i z : Int} {f : jSt → Option (Int × jSt)} (hi : R32 i) (hz : z = 0 ∨ z = 1) (hd : decode cc pc = .ok (.bastore, 1)) (h : ∀ S1 : jSt, J G y cc nL rT d S0 (pc + 1) lv st S1 (f S1)) : J G y cc nL rT d S0 pc lv ((0, z) :: (0, i) :: (2, a) :: st) S (fast S a i 3 z f) := by
  unfold fast
  refine j_guard fun hq => ?_
  have hp := jpair hq.1
  refine j_wr (k := i.toNat) (z := z) (t := (3, (jty S a).2)) (en := .inl (G.2.2.2.1 3, (jty S a).2, .inl (upd (fun j => Int32.ofInt (S.2.2.2 a.toNat j)) i.toNat (vp_nar .boolean (Int32.ofInt z))))) hp (Nat.le_of_ble_eq_true rfl) hz (fun v hv => ?_) (fun ok hR hS kk => ?_) (h _)
  · subst hv
    show _ = (Sum.inl (G.2.2.2.1 3, (jty S a).2, .inl fun j => Int32.ofInt (va_up (S.2.2.2 a.toNat) i.toNat z j)) : va_E)
    congr 4
    funext j
    unfold upd va_up
    by_cases hj : j = i.toNat
    · rw [if_pos hj, if_pos hj]; exact jnar_bool hz
    · rw [if_neg hj, if_neg hj]
  · have hg := hR.get hp (Nat.le_of_ble_eq_true rfl)
    refine va_zast (D := G.2.2.1) (cl := vwCl) (tys := jtys G) (ws := jwd G S) ok.1 ok.2.1 ok.2.2.2.2.2.1.1 hR.2.2.2.1 jwd_D hS _ 2 hg rfl (jin_of hi hq.2.1 hq.2.2) hd (fun H1 locs1 hP1 _ hS1 => kk H1 locs1 ?_ hS1)
    rw [jclamp_of hi hq.2.1] at hP1
    exact hP1
end JA
