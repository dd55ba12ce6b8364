-- new cells
def jnewS (S : jSt) (t : Nat × Nat) (N : Nat) (v : Nat → Int) : jSt := (S.1 + 1, S.2.1 + N, va_up S.2.2.1 S.1 t, va_up S.2.2.2 S.1 v)
def jdf (t : FieldType) : Int := if jtag t = 3 then -1 else 0
theorem jdf_ok {t : FieldType} (h : jplain t = true) : defaultValue t = jval (jtag t, jdf t) := by
  cases t <;> first | rfl | cases h
theorem jdf_rg (t : FieldType) : jrg t (jdf t) := by
  cases t <;> first | trivial | exact Or.inl rfl | (unfold jrg jdf jtag R32; simp) | (unfold jrg jdf jtag R64; simp)
def fnew (S : jSt) (ci : Nat) (f : Int → jSt → Option (Int × jSt)) : Option (Int × jSt) := f (S.1 : Int) (jnewS S (0, ci) (jnO ci) (fun k => jdf (jtyO ci k)))
def fnewa (S : jSt) (kd : Nat) (z : Int) (f : Int → jSt → Option (Int × jSt)) : Option (Int × jSt) := if 0 ≤ z ∧ z ≤ 65536 then f (S.1 : Int) (jnewS S (kd, z.toNat) z.toNat (fun _ => 0)) else none
def fnewr (S : jSt) (kd : Nat) (z : Int) (f : Int → jSt → Option (Int × jSt)) : Option (Int × jSt) := if 0 ≤ z ∧ z ≤ 65536 then f (S.1 : Int) (jnewS S (kd, z.toNat) z.toNat (fun _ => -1)) else none
def fclone (S : jSt) (a : Int) (f : Int → jSt → Option (Int × jSt)) : Option (Int × jSt) := if (jty S a).1 = 1 then f (S.1 : Int) (jnewS S (1, (jty S a).2) (jty S a).2 (S.2.2.2 a.toNat)) else none
theorem jnew_wd {G : jG} {S : jSt} {t : Nat × Nat} {N : Nat} {v : Nat → Int} (hB : G.2.1 ≤ S.1) : jwd G (jnewS S t N v) = jwd G S ++ [(S.1, jce G t v)] := by
  unfold jwd
  show va_pl (List.range' G.2.1 (S.1 + 1 - G.2.1)) (jcell G (jnewS S t N v)) = _
  rw [show S.1 + 1 - G.2.1 = (S.1 - G.2.1) + 1 by omega, List.range'_concat]
  unfold va_pl
  rw [List.map_append]
  have e1 : G.2.1 + 1 * (S.1 - G.2.1) = S.1 := by omega
  congr 1
  · apply List.map_congr_left
    intro a ha
    rw [List.mem_range'_1] at ha
    have hne : a ≠ S.1 := by omega
    unfold jcell jnewS
    show (a, jce G (va_up S.2.2.1 S.1 t a) (va_up S.2.2.2 S.1 v a)) = _
    rw [va_up_ne _ _ hne, va_up_ne _ _ hne]
  · rw [e1]
    unfold jcell jnewS
    show [(S.1, jce G (va_up S.2.2.1 S.1 t S.1) (va_up S.2.2.2 S.1 v S.1))] = _
    rw [va_up_self, va_up_self]
theorem jnew_wf {S : jSt} {t : Nat × Nat} {N : Nat} {v : Nat → Int} (h : jWf S) (hv : ∀ j, jfit t j (v j)) : jWf (jnewS S t N v) := by
  intro a j
  show jfit (va_up S.2.2.1 S.1 t a) j (va_up S.2.2.2 S.1 v a j)
  by_cases ha : a = S.1
  · rw [ha, va_up_self, va_up_self]
    exact hv j
  · rw [va_up_ne _ _ ha, va_up_ne _ _ ha]
    exact h a j
section JN
variable {G : jG} {y : MethodName} {cc : ByteArray} {nL : Nat} {rT : Option FieldType} {d : Nat} {S0 S : jSt} {pc : Nat} {lv : jLv} {st : jSk} {o : Option (Int × jSt)}
theorem j_al {pc' : Nat} {st' : jSk} {t : Nat × Nat} {N : Nat} {v : Nat → Int} (ht5 : t.1 ≤ 5) (hfit : ∀ j, jfit t j (v j))
    (hw : ∀ {p : Program} {e : Env} {R : Room} {s : State} {m : MethodId} {args : Array Value} {below : List Frame} {meth : Method} {c0 : Code} {H : Heap} {locs : List Loc} {cells slots : Nat} {Q : State → Prop} {ls : Array Slot}, jok G y cc nL rT p s m args meth c0 → jRep G S H → va_S (jA G) s.heap H locs → ls.size = nL → d ≤ R.frames → 64 * d ≤ R.locals → cells + 1 ≤ R.cells → slots + N ≤ R.slots →
      (∀ (q : Nat) (H1 : Heap), va_P G.2.2.1 vwCl (jwd G S ++ [(q, jce G t v)]) H1 → va_D (jA G) (jwd G S ++ [(q, jce G t v)]) → va_S (jA G) s.heap H1 locs → W p G.1 e R s m args below meth c0 H1 locs (cells + 1) (slots + N) Q (F0 m pc' ls (.ref q :: st'.map jval))) → W p G.1 e R s m args below meth c0 H locs cells slots Q (F0 m pc ls (st.map jval)))
    (h : J G y cc nL rT d S0 pc' lv ((2, (S.1 : Int)) :: st') (jnewS S t N v) o) : J G y cc nL rT d S0 pc lv st S o := by
  intro hwf r Se ho
  obtain ⟨⟨h1, h2, h4⟩, h3⟩ := h (jnew_wf hwf hfit) r Se ho
  have h1' : S.1 + 1 ≤ Se.1 := h1
  have h2' : S.2.1 + N ≤ Se.2.1 := h2
  refine ⟨⟨by omega, by omega, h4⟩, fun p e R s m args below meth c H locs ls ok a1 a2 a3 a4 a5 a6 a7 a8 a9 a10 => hw ok a8 a9 a10.1 a4 a5 (by omega) (by omega) fun q H1 hP1 hD1 hS1 => W_size fun hsz => ?_⟩
  have hB : G.2.1 ≤ s.heap.size := ok.2.2.2.2.2.2.2.2.2.1
  have hBS : G.2.1 ≤ S.1 := a8.2.1
  have hlen : (jwd G S).length = S.1 - G.2.1 := by unfold jwd va_pl; rw [List.length_map, List.length_range']
  have hat : (jwd G S ++ [(q, jce G t v)])[S.1 - G.2.1]? = some (q, jce G t v) := by
    rw [List.getElem?_append_right (by omega), hlen, Nat.sub_self]; rfl
  have hq1 : q < H1.size := (hP1 _ _ hat).lt
  have hq2 : G.2.1 ≤ q := hD1.2 _ _ hat
  have hq3 : ¬ q < S.1 := fun hlt => by
    have hat2 : (jwd G S ++ [(q, jce G t v)])[q - G.2.1]? = some (q, jcell G S q) := by
      rw [List.getElem?_append_left (by omega)]
      exact jwd_get hq2 hlt
    have := hD1.1 _ _ _ _ hat hat2 rfl
    omega
  have hqe : q = S.1 := by omega
  subst hqe
  rw [← jnew_wd (N := N) hBS] at hP1
  have hrep : jRep G (jnewS S t N v) H1 := by
    obtain ⟨q1, q2, q3, q4, q5, q6⟩ := a8
    refine ⟨by show H1.size = S.1 + 1; omega, by show G.2.1 ≤ S.1 + 1; omega, fun q hq => (jbelow hB a9 hS1 q hq).trans (q3 q hq), hP1, fun a ha => ?_, jnew_wf hwf hfit⟩
    show G.2.1 ≤ a ∧ a < S.1 + 1
    by_cases hae : a = S.1
    · omega
    · have ha' : (va_up S.2.2.1 S.1 t a).1 ≤ 5 := ha
      rw [va_up_ne _ _ hae] at ha'
      have := q5 a ha'
      omega
  have k9 := h3 p e R s m args below meth c H1 locs ls ok a1 (by show S0.1 ≤ S.1 + 1; omega) (by show S0.2.1 ≤ S.2.1 + N; omega) a4 a5 a6 a7 hrep hS1 a10
  have e1 : (jnewS S t N v).1 - S0.1 = S.1 - S0.1 + 1 := by show S.1 + 1 - S0.1 = _; omega
  have e2 : (jnewS S t N v).2.1 - S0.2.1 = S.2.1 - S0.2.1 + N := by show S.2.1 + N - S0.2.1 = _; omega
  rw [e1, e2] at k9
  exact k9
theorem j_new {ci idx : Nat} {C : String} {T : u_T} {N : Nat} {ty0 : Nat → FieldType} {f : Int → jSt → Option (Int × jSt)} (hc : vwCl[ci]? = some (C, T, N)) (hin : ∀ w ∈ u_ws C T N, w ∈ lw_g) (hN : jnO ci = N) (hty0 : ∀ k, k < N → parseFieldDescriptor (T k).2.2.1 = some (ty0 k)) (hte : jtyO ci = ty0) (hpl : ∀ j, j < N → jplain (ty0 j) = true) (hw1 : Cond.classLink y.cls idx C ∈ lw_g) (hw2 : Cond.instantiable C N ∈ lw_g) (hw3 : Cond.initialized C ∈ lw_g) (hd : decode cc pc = .ok (.new idx, 3))
    (h : ∀ (a : Int) (S1 : jSt), 0 ≤ a → J G y cc nL rT d S0 (pc + 3) lv ((2, a) :: st) S1 (f a S1)) : J G y cc nL rT d S0 pc lv st S (fnew S ci f) := by
  unfold fnew
  refine j_al (t := (0, ci)) (N := jnO ci) (v := fun k => jdf (jtyO ci k)) (st' := st) (Nat.zero_le _) (fun j => jdf_rg _) (fun ok hR hS _ _ _ hc1 hs1 kk => ?_) (h _ _ (by omega))
  rw [hN] at hs1 kk
  refine va_new (D := G.2.2.1) (cl := vwCl) (tys := jtys G) (ws := jwd G S) (ci := ci) (C := C) (T := T) (N := N) (fs := jfl ci (fun k => jdf (jtyO ci k))) ok.1 ok.2.1 ok.2.2.2.2.1 hin ty0 hty0 ok.2.2.2.1 (ok.2.2.2.2.1 _ hw1) (ok.2.2.2.2.1 _ hw2) (ok.2.2.2.2.1 _ hw3) ok.2.2.2.2.2.1.1 hR.2.2.2.1 jwd_D hS (fun q hq => Nat.le_trans ok.2.2.2.2.2.2.2.2.2.1 hq) hc (fun j hj => ?_) hc1 hs1 hd (fun q H1 hP1 hD1 hS1 => kk q H1 hP1 hD1 hS1)
  unfold vp_V
  rw [List.getD_eq_getElem?_getD, jfl_get (by rw [hN]; exact hj), hte]
  exact jdf_ok (hpl j hj)
theorem jvcell {cA : ClassId} (N : Nat) : vp_cell cA (N, .inl fun _ => Int32.ofInt 0) = arrV cA N (fun _ => .int 0) := rfl
theorem jK_arr {G : jG} {s : State} (h : jK G s) (k : Nat) {q : ClassId × FieldType} (hq : (jtys G)[k]? = some q) : ArrOfT s q.1 q.2 ∧ va_RA s q.1 q.2 := h.1.2 k q hq
theorem j_newai {z : Int} {f : Int → jSt → Option (Int × jSt)} (hz : R32 z) (hw : Cond.arrayClass .int ∈ lw_g) (hd : decode cc pc = .ok (.newarray .int, 2))
    (h : ∀ (a : Int) (S1 : jSt), 0 ≤ a → J G y cc nL rT d S0 (pc + 2) lv ((2, a) :: st) S1 (f a S1)) : J G y cc nL rT d S0 pc lv ((0, z) :: st) S (fnewa S 1 z f) := by
  unfold fnewa
  refine j_guard fun hq => ?_
  refine j_al (t := (1, z.toNat)) (N := z.toNat) (v := fun _ => 0) (st' := st) (Nat.le_of_ble_eq_true rfl) (fun j => R32_0) (fun ok hR hS _ _ _ hc1 hs1 kk => ?_) (h _ _ (by omega))
  refine va_newa (atype := .int) (ty := .int) (a0 := (z.toNat, .inl fun _ => Int32.ofInt 0)) (D := G.2.2.1) (cl := vwCl) (tys := jtys G) (ws := jwd G S) ok.1 ok.2.1 (ok.2.2.2.2.1 _ hw) rfl ok.2.2.2.2.2.1.1 hR.2.2.2.1 jwd_D hS (fun q hq => Nat.le_trans ok.2.2.2.2.2.2.2.2.2.1 hq) (fun cA => rfl) (by rw [jlt_of0 hz]; omega) (jclamp_of hz hq.1) (by
    show z.toNat * componentBytes .int ≤ 536870912
    have h8 : componentBytes .int ≤ 8 := by decide
    have h9 : z.toNat ≤ 65536 := by omega
    calc z.toNat * componentBytes .int ≤ 65536 * 8 := Nat.mul_le_mul h9 h8
      _ ≤ 536870912 := by decide) hc1 hs1 hd (fun q cA H1 hK1 hP1 hD1 hS1 => ?_)
  have hA : cA = G.2.2.2.1 1 := by
    have q1 := (hK1.2 5 (cA, .int) rfl).2
    have q2 := (jK_arr ok.2.2.2.2.2.1 0 rfl).2
    exact Option.some.inj (q1.symm.trans q2)
  subst hA
  exact kk q H1 hP1 hD1 hS1
theorem j_newal {z : Int} {f : Int → jSt → Option (Int × jSt)} (hz : R32 z) (hw : Cond.arrayClass .long ∈ lw_g) (hd : decode cc pc = .ok (.newarray .long, 2))
    (h : ∀ (a : Int) (S1 : jSt), 0 ≤ a → J G y cc nL rT d S0 (pc + 2) lv ((2, a) :: st) S1 (f a S1)) : J G y cc nL rT d S0 pc lv ((0, z) :: st) S (fnewa S 2 z f) := by
  unfold fnewa
  refine j_guard fun hq => ?_
  refine j_al (t := (2, z.toNat)) (N := z.toNat) (v := fun _ => 0) (st' := st) (Nat.le_of_ble_eq_true rfl) (fun j => R64_0) (fun ok hR hS _ _ _ hc1 hs1 kk => ?_) (h _ _ (by omega))
  refine va_newa (atype := .long) (ty := .long) (a0 := (z.toNat, .inr (.inl fun _ => Int64.ofInt 0))) (D := G.2.2.1) (cl := vwCl) (tys := jtys G) (ws := jwd G S) ok.1 ok.2.1 (ok.2.2.2.2.1 _ hw) rfl ok.2.2.2.2.2.1.1 hR.2.2.2.1 jwd_D hS (fun q hq => Nat.le_trans ok.2.2.2.2.2.2.2.2.2.1 hq) (fun cA => rfl) (by rw [jlt_of0 hz]; omega) (jclamp_of hz hq.1) (by
    show z.toNat * componentBytes .long ≤ 536870912
    have h8 : componentBytes .long ≤ 8 := by decide
    have h9 : z.toNat ≤ 65536 := by omega
    calc z.toNat * componentBytes .long ≤ 65536 * 8 := Nat.mul_le_mul h9 h8
      _ ≤ 536870912 := by decide) hc1 hs1 hd (fun q cA H1 hK1 hP1 hD1 hS1 => ?_)
  have hA : cA = G.2.2.2.1 2 := by
    have q1 := (hK1.2 5 (cA, .long) rfl).2
    have q2 := (jK_arr ok.2.2.2.2.2.1 1 rfl).2
    exact Option.some.inj (q1.symm.trans q2)
  subst hA
  exact kk q H1 hP1 hD1 hS1
theorem j_newaz {z : Int} {f : Int → jSt → Option (Int × jSt)} (hz : R32 z) (hw : Cond.arrayClass .boolean ∈ lw_g) (hd : decode cc pc = .ok (.newarray .boolean, 2))
    (h : ∀ (a : Int) (S1 : jSt), 0 ≤ a → J G y cc nL rT d S0 (pc + 2) lv ((2, a) :: st) S1 (f a S1)) : J G y cc nL rT d S0 pc lv ((0, z) :: st) S (fnewa S 3 z f) := by
  unfold fnewa
  refine j_guard fun hq => ?_
  refine j_al (t := (3, z.toNat)) (N := z.toNat) (v := fun _ => 0) (st' := st) (Nat.le_of_ble_eq_true rfl) (fun j => (Or.inl rfl : (0 : Int) = 0 ∨ (0 : Int) = 1)) (fun ok hR hS _ _ _ hc1 hs1 kk => ?_) (h _ _ (by omega))
  refine va_newa (atype := .boolean) (ty := .boolean) (a0 := (z.toNat, .inl fun _ => Int32.ofInt 0)) (D := G.2.2.1) (cl := vwCl) (tys := jtys G) (ws := jwd G S) ok.1 ok.2.1 (ok.2.2.2.2.1 _ hw) rfl ok.2.2.2.2.2.1.1 hR.2.2.2.1 jwd_D hS (fun q hq => Nat.le_trans ok.2.2.2.2.2.2.2.2.2.1 hq) (fun cA => rfl) (by rw [jlt_of0 hz]; omega) (jclamp_of hz hq.1) (by
    show z.toNat * componentBytes .boolean ≤ 536870912
    have h8 : componentBytes .boolean ≤ 8 := by decide
    have h9 : z.toNat ≤ 65536 := by omega
    calc z.toNat * componentBytes .boolean ≤ 65536 * 8 := Nat.mul_le_mul h9 h8
      _ ≤ 536870912 := by decide) hc1 hs1 hd (fun q cA H1 hK1 hP1 hD1 hS1 => ?_)
  have hA : cA = G.2.2.2.1 3 := by
    have q1 := (hK1.2 5 (cA, .boolean) rfl).2
    have q2 := (jK_arr ok.2.2.2.2.2.1 2 rfl).2
    exact Option.some.inj (q1.symm.trans q2)
  subst hA
  exact kk q H1 hP1 hD1 hS1
theorem j_newr4 {idx : Nat} {z : Int} {f : Int → jSt → Option (Int × jSt)} (hz : R32 z) (hw : Cond.classLink y.cls idx RX1 ∈ lw_g) (hd : decode cc pc = .ok (.anewarray idx, 3))
    (h : ∀ (a : Int) (S1 : jSt), 0 ≤ a → J G y cc nL rT d S0 (pc + 3) lv ((2, a) :: st) S1 (f a S1)) : J G y cc nL rT d S0 pc lv ((0, z) :: st) S (fnewr S 4 z f) := by
  unfold fnewr
  refine j_guard fun hq => ?_
  refine j_al (t := (4, z.toNat)) (N := z.toNat) (v := fun _ => -1) (st' := st) (Nat.le_of_ble_eq_true rfl) (fun j => trivial) (fun ok hR hS _ _ _ hc1 hs1 kk => ?_) (h _ _ (by omega))
  refine va_newq (D := G.2.2.1) (cl := vwCl) (tys := jtys G) (ws := jwd G S) ok.1 ok.2.1 ok.2.2.2.1 (ok.2.2.2.2.1 _ hw) ok.2.2.2.2.2.1.2.1.2.2.1 ok.2.2.2.2.2.1.1 hR.2.2.2.1 jwd_D hS (fun q hq => Nat.le_trans ok.2.2.2.2.2.2.2.2.2.1 hq) (by rw [jlt_of0 hz]; omega) (jclamp_of hz hq.1) (by omega) hc1 hs1 hd (fun q cA H1 hK1 hP1 hD1 hS1 => ?_)
  have hA : cA = G.2.2.2.1 4 := by
    obtain ⟨_, _, _, _, _, q1⟩ := (hK1.2 5 (cA, .object RX1) rfl).2
    obtain ⟨_, _, _, _, _, q2⟩ := (jK_arr ok.2.2.2.2.2.1 3 rfl).2
    exact Option.some.inj (q1.symm.trans q2)
  subst hA
  exact kk q H1 hP1 hD1 hS1
theorem j_newr5 {idx : Nat} {z : Int} {f : Int → jSt → Option (Int × jSt)} (hz : R32 z) (hw : Cond.classLink y.cls idx RX6 ∈ lw_g) (hd : decode cc pc = .ok (.anewarray idx, 3))
    (h : ∀ (a : Int) (S1 : jSt), 0 ≤ a → J G y cc nL rT d S0 (pc + 3) lv ((2, a) :: st) S1 (f a S1)) : J G y cc nL rT d S0 pc lv ((0, z) :: st) S (fnewr S 5 z f) := by
  unfold fnewr
  refine j_guard fun hq => ?_
  refine j_al (t := (5, z.toNat)) (N := z.toNat) (v := fun _ => -1) (st' := st) (Nat.le_of_ble_eq_true rfl) (fun j => trivial) (fun ok hR hS _ _ _ hc1 hs1 kk => ?_) (h _ _ (by omega))
  refine va_newq (D := G.2.2.1) (cl := vwCl) (tys := jtys G) (ws := jwd G S) ok.1 ok.2.1 ok.2.2.2.1 (ok.2.2.2.2.1 _ hw) ok.2.2.2.2.2.1.2.1.2.2.2.1 ok.2.2.2.2.2.1.1 hR.2.2.2.1 jwd_D hS (fun q hq => Nat.le_trans ok.2.2.2.2.2.2.2.2.2.1 hq) (by rw [jlt_of0 hz]; omega) (jclamp_of hz hq.1) (by omega) hc1 hs1 hd (fun q cA H1 hK1 hP1 hD1 hS1 => ?_)
  have hA : cA = G.2.2.2.1 5 := by
    obtain ⟨_, _, _, _, _, q1⟩ := (hK1.2 5 (cA, .object RX6) rfl).2
    obtain ⟨_, _, _, _, _, q2⟩ := (jK_arr ok.2.2.2.2.2.1 4 rfl).2
    exact Option.some.inj (q1.symm.trans q2)
  subst hA
  exact kk q H1 hP1 hD1 hS1
end JN
