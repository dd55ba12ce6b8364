def fcopy (S : jSt) (a0 sp a dp n : Int) (f : jSt → Option (Int × jSt)) : Option (Int × jSt) := if ((jty S a0).1 = 1 ∧ (jty S a).1 = 1) ∧ (0 ≤ sp ∧ 0 ≤ dp ∧ 0 ≤ n) ∧ sp + n ≤ ((jty S a0).2 : Int) ∧ dp + n ≤ ((jty S a).2 : Int) then f (S.1, S.2.1, S.2.2.1, va_up S.2.2.2 a.toNat (va_cpy (S.2.2.2 a0.toNat) (S.2.2.2 a.toNat) sp.toNat dp.toNat n.toNat)) else none
/-- a whole cell is written anew -/
theorem jRep.putv {G : jG} {S : jSt} {H H1 : Heap} (h : jRep G S H) {a : Int} {w : Nat → Int} {t : Nat × Nat} (ht : jty S a = t) (hk : t.1 ≤ 5) (hf : ∀ j, jfit t j (w j)) {e : va_E} (he : e = jce G t w)
    (hs : H1.size = H.size) (hB : ∀ q : Nat, q < G.2.1 → H1[q]? = H[q]?) (hP : va_P G.2.2.1 vwCl ((jwd G S).set (a.toNat - G.2.1) (a.toNat, e)) H1) : jRep G (S.1, S.2.1, S.2.2.1, va_up S.2.2.2 a.toNat w) H1 ∧ jWf (S.1, S.2.1, S.2.2.1, va_up S.2.2.2 a.toNat w) := by
  have h1 := h.in (a := a) (by rw [ht]; exact hk)
  rw [jwd_set h1.1 h1.2] at hP
  obtain ⟨q1, q2, q3, q4, q5, q6⟩ := h
  have hwf : jWf (S.1, S.2.1, S.2.2.1, va_up S.2.2.2 a.toNat w) := by
    intro b j
    show jfit (S.2.2.1 b) j (va_up S.2.2.2 a.toNat w b j)
    by_cases hb : b = a.toNat
    · rw [hb, va_up_self, show S.2.2.1 a.toNat = t from ht]
      exact hf j
    · rw [va_up_ne _ _ hb]
      exact q6 b j
  refine ⟨⟨hs.trans q1, q2, fun q hq => (hB q hq).trans (q3 q hq), ?_, q5, hwf⟩, hwf⟩
  show va_P G.2.2.1 vwCl (va_pl _ (jcell G (S.1, S.2.1, S.2.2.1, va_up S.2.2.2 a.toNat w))) H1
  rw [← va_pl_congr (f := va_up (jcell G S) a.toNat e)]
  · exact hP
  · intro b
    by_cases hb : b = a.toNat
    · rw [hb, va_up_self, he]
      unfold jcell
      show jce G t w = jce G (S.2.2.1 a.toNat) (va_up S.2.2.2 a.toNat w a.toNat)
      rw [va_up_self, show S.2.2.1 a.toNat = t from ht]
    · rw [va_up_ne _ _ hb]
      unfold jcell
      show jce G (S.2.2.1 b) (S.2.2.2 b) = jce G (S.2.2.1 b) (va_up S.2.2.2 a.toNat w b)
      rw [va_up_ne _ _ hb]
section JE
variable {G : jG} {y : MethodName} {cc : ByteArray} {nL : Nat} {rT : Option FieldType} {d : Nat} {S0 S : jSt} {pc : Nat} {lv : jLv} {st : jSk} {o : Option (Int × jSt)}
theorem j_alen {a : Int} {f : Int → Option (Int × jSt)} (hd : decode cc pc = .ok (.arraylength, 1)) (h : ∀ z : Int, R32 z → J G y cc nL rT d S0 (pc + 1) lv ((0, z) :: st) S (f z)) : J G y cc nL rT d S0 pc lv ((2, a) :: st) S (flen S a 1 f) := by
  unfold flen
  refine j_guard fun hq => ?_
  have hp := jpair hq.1
  refine j_rd (st' := (0, ((jty S a).2 : Int)) :: st) (fun ok hR kk => ?_) (h _ (by unfold R32; omega))
  have hg := hR.get hp (Nat.le_of_ble_eq_true rfl)
  exact va_alen (v := Int32.ofInt ((jty S a).2 : Int)) (D := G.2.2.1) (cl := vwCl) (tys := jtys G) (ws := jwd G S) ok.1 ok.2.1 ok.2.2.2.2.2.1.1 hR.2.2.2.1 _ 0 hg rfl (Int32.ofInt_eq_ofNat).symm hd kk
theorem j_cast {z : Int} {st' : jSk} (hs : ¬ z < 0 → st.map jval = st'.map jval) (h : 0 ≤ z → J G y cc nL rT d S0 pc lv st' S o) : J G y cc nL rT d S0 pc lv st S (if 0 ≤ z then o else none) := by
  refine j_guard fun hz => ?_
  have e := hs (by omega)
  intro hwf r Se ho
  obtain ⟨h1, h3⟩ := h hz hwf r Se ho
  rw [← e] at h3
  exact ⟨h1, h3⟩
/-- a reference is one that may be null, too -/
theorem j_weak {z : Int} {st' : jSk} (hs : ¬ z < 0 → st.map jval = st'.map jval) (hz : 0 ≤ z) (h : J G y cc nL rT d S0 pc lv st' S o) : J G y cc nL rT d S0 pc lv st S o := by
  have e := hs (by omega)
  intro hwf r Se ho
  obtain ⟨h1, h3⟩ := h hwf r Se ho
  rw [← e] at h3
  exact ⟨h1, h3⟩
theorem j_objInit {idx : Nat} {a : Int} (hw1 : Cond.methodLink y.cls idx objectInit ∈ lw_g) (hw2 : Cond.instanceMethod objectInit ∈ lw_g) (hw3 : Cond.code objectInit ⟨#[0xb1]⟩ 1 none ∈ lw_g) (hst : jwords st ≤ 8) (hd1 : 1 ≤ d) (hd : decode cc pc = .ok (.invokespecial idx, 3)) (h : J G y cc nL rT d S0 (pc + 3) lv st S o) : J G y cc nL rT d S0 pc lv ((2, a) :: st) S o := fun hwf r Se ho =>
  let ⟨h1, h3⟩ := h hwf r Se ho
  ⟨h1, fun p e R s m args below meth c H locs ls ok a1 a2 a3 a4 a5 a6 a7 a8 a9 a10 => W.objInit ok.1 ok.2.1 ok.2.2.2.1 (ok.2.2.2.2.1 _ hw1) (ok.2.2.2.2.1 _ hw2) (ok.2.2.2.2.1 _ hw3) rfl (by rw [ok.2.2.1]; exact a10.1) (rest := st.map jval) rfl hd (by omega) (by show 2 * 0 + _ + 12 ≤ _; rw [jcats]; omega) (h3 p e R s m args below meth c H locs ls ok a1 a2 a3 a4 a5 a6 a7 a8 a9 a10)⟩
theorem j_getN {ci k idx : Nat} {C host : String} {T : u_T} {N : Nat} {a : Int} {f : Int → Option (Int × jSt)} (hc : vwCl[ci]? = some (C, T, N)) (hin : ∀ w ∈ u_ws C T N, w ∈ lw_g) (hk : k < N) (hN : jnO ci = N) (ht : jtag (jtyO ci k) = 3) (hw : (y.cls, idx, (T k).1, (T k).2.1, (T k).2.2.1, host) ∈ jNf) (hd : decode cc pc = .ok (.getfield idx, 3))
    (h : ∀ z : Int, 0 ≤ z → J G y cc nL rT d S0 (pc + 3) lv ((2, z) :: st) S (f z)) : J G y cc nL rT d S0 pc lv ((2, a) :: st) S (fgetr S a ci k f) := by
  unfold fgetr
  refine j_guard fun hty => ?_
  refine j_rd (st' := (2, jg S a k) :: st) (fun {p e R s m args below meth c0 H locs cells slots Q ls} ok hR kk => ?_) (h (jg S a k) hty.2)
  have hg := hR.get hty.1 (Nat.zero_le _)
  have hN : (Cond.fieldLinkNest y.cls idx (T k).1 (T k).2.1 (T k).2.2.1 host).before args s = true := va_Nw.use rfl (ok.2.2.2.2.2.1.2.1.2.1 _ hw)
  refine va_getN (D := G.2.2.1) (cl := vwCl) (tys := jtys G) (ws := jwd G S) (ci := ci) (C := C) (T := T) (N := N) ok.1 ok.2.1 ok.2.2.2.2.1 hin ok.2.2.2.1 ok.2.2.2.2.2.1.1 hR.2.2.2.1 _ hg hc k hk hN (fun _ h9 => h9) (v := jval (2, jg S a k)) ?_ hd kk
  rw [jfl_get (by omega), ht, ← jval3r (by have := hty.2; omega)]
  rfl
theorem jopt_up (v : Nat → Int) (i : Nat) (z : Int) : va_up (fun j => jopt (v j)) i (jopt z) = fun j => jopt (va_up v i z j) := by
  funext j
  unfold va_up
  by_cases h : j = i
  · rw [if_pos h, if_pos h]
  · rw [if_neg h, if_neg h]
theorem j_aastore4 {a i z : Int} {f : jSt → Option (Int × jSt)} (hi : R32 i) (hd : decode cc pc = .ok (.aastore, 1)) (h : ∀ S1 : jSt, J G y cc nL rT d S0 (pc + 1) lv st S1 (f S1)) : J G y cc nL rT d S0 pc lv ((3, z) :: (0, i) :: (2, a) :: st) S (fastr S a i 4 1 z f) := by
  unfold fastr
  refine j_guard fun hq => ?_
  have hp := jpair hq.1
  refine j_wr (k := i.toNat) (z := z) (t := (4, (jty S a).2)) (en := .inl (G.2.2.2.1 4, (jty S a).2, .inr (.inr (.inr (.inr (va_up (fun j => jopt (S.2.2.2 a.toNat j)) i.toNat (jopt z))))))) hp (Nat.le_of_ble_eq_true rfl) trivial (fun v hv => ?_) (fun ok hR hS kk => ?_) (h _)
  · subst hv
    rw [jopt_up]
    rfl
  · have hg := hR.get hp (Nat.le_of_ble_eq_true rfl)
    rw [List.map_cons]
    by_cases hz : z < 0
    · rw [jval3n hz]
      refine va_astqN (C := RX1) (D := G.2.2.1) (cl := vwCl) (tys := jtys G) (ws := jwd G S) ok.1 ok.2.1 ok.2.2.2.2.2.1.1 hR.2.2.2.1 jwd_D hS _ 3 hg rfl (jin_of hi hq.2.1 hq.2.2.1) hd (fun H1 locs1 hP1 _ hS1 => kk H1 locs1 ?_ hS1)
      rw [jclamp_of hi hq.2.1] at hP1
      rw [show jopt z = none from if_pos hz]
      exact hP1
    · rw [jval3r hz]
      have hzt : jty S z = (0, 1) := hq.2.2.2.resolve_left hz
      refine va_astq (r := (RX1, TX1, 9)) (D := G.2.2.1) (cl := vwCl) (tys := jtys G) (ws := jwd G S) ok.1 ok.2.1 ok.2.2.2.2.2.1.1 hR.2.2.2.1 jwd_D hS _ 3 _ 1 hg rfl (hR.get hzt (Nat.zero_le _)) rfl (jin_of hi hq.2.1 hq.2.2.1) hd (fun H1 locs1 hP1 _ hS1 => kk H1 locs1 ?_ hS1)
      rw [jclamp_of hi hq.2.1] at hP1
      rw [show jopt z = some z.toNat from if_neg hz]
      exact hP1
theorem j_aastore5 {a i z : Int} {f : jSt → Option (Int × jSt)} (hi : R32 i) (hd : decode cc pc = .ok (.aastore, 1)) (h : ∀ S1 : jSt, J G y cc nL rT d S0 (pc + 1) lv st S1 (f S1)) : J G y cc nL rT d S0 pc lv ((3, z) :: (0, i) :: (2, a) :: st) S (fastr S a i 5 6 z f) := by
  unfold fastr
  refine j_guard fun hq => ?_
  have hp := jpair hq.1
  refine j_wr (k := i.toNat) (z := z) (t := (5, (jty S a).2)) (en := .inl (G.2.2.2.1 5, (jty S a).2, .inr (.inr (.inr (.inr (va_up (fun j => jopt (S.2.2.2 a.toNat j)) i.toNat (jopt z))))))) hp (Nat.le_of_ble_eq_true rfl) trivial (fun v hv => ?_) (fun ok hR hS kk => ?_) (h _)
  · subst hv
    rw [jopt_up]
    rfl
  · have hg := hR.get hp (Nat.le_of_ble_eq_true rfl)
    rw [List.map_cons]
    by_cases hz : z < 0
    · rw [jval3n hz]
      refine va_astqN (C := RX6) (D := G.2.2.1) (cl := vwCl) (tys := jtys G) (ws := jwd G S) ok.1 ok.2.1 ok.2.2.2.2.2.1.1 hR.2.2.2.1 jwd_D hS _ 4 hg rfl (jin_of hi hq.2.1 hq.2.2.1) hd (fun H1 locs1 hP1 _ hS1 => kk H1 locs1 ?_ hS1)
      rw [jclamp_of hi hq.2.1] at hP1
      rw [show jopt z = none from if_pos hz]
      exact hP1
    · rw [jval3r hz]
      have hzt : jty S z = (0, 6) := hq.2.2.2.resolve_left hz
      refine va_astq (r := (RX6, TX6, 5)) (D := G.2.2.1) (cl := vwCl) (tys := jtys G) (ws := jwd G S) ok.1 ok.2.1 ok.2.2.2.2.2.1.1 hR.2.2.2.1 jwd_D hS _ 4 _ 6 hg rfl (hR.get hzt (Nat.zero_le _)) rfl (jin_of hi hq.2.1 hq.2.2.1) hd (fun H1 locs1 hP1 _ hS1 => kk H1 locs1 ?_ hS1)
      rw [jclamp_of hi hq.2.1] at hP1
      rw [show jopt z = some z.toNat from if_neg hz]
      exact hP1
theorem jfits_int (x : Int32) : fits .int (.int x) = true := rfl
theorem j_copy {idx : Nat} {a0 sp a dp n : Int} {f : jSt → Option (Int × jSt)} (h1 : R32 sp) (h2 : R32 dp) (h3 : R32 n) (hw1 : Cond.methodLink y.cls idx arraycopyName ∈ lw_g) (hw2 : Cond.native arraycopyName ∈ lw_g) (hw3 : Cond.static arraycopyName ∈ lw_g) (hw4 : Cond.initialized "java/lang/System" ∈ lw_g) (hst : jwords st ≤ 8) (hd1 : 1 ≤ d) (hd : decode cc pc = .ok (.invokestatic idx, 3))
    (h : ∀ S1 : jSt, J G y cc nL rT d S0 (pc + 3) lv st S1 (f S1)) : J G y cc nL rT d S0 pc lv ((0, n) :: (0, dp) :: (2, a) :: (0, sp) :: (2, a0) :: st) S (fcopy S a0 sp a dp n f) := by
  unfold fcopy
  refine j_guard fun hq => ?_
  obtain ⟨⟨p0, p1⟩, ⟨s1, s2, s3⟩, l1, l2⟩ := hq
  have hp0 := jpair p0
  have hp1 := jpair p1
  intro hwf r Se ho
  have hfit : ∀ j, jfit (1, (jty S a).2) j (va_cpy (S.2.2.2 a0.toNat) (S.2.2.2 a.toNat) sp.toNat dp.toNat n.toNat j) := by
    intro j
    have f0 : ∀ j, R32 (S.2.2.2 a0.toNat j) := fun j => by
      have := hwf a0.toNat j
      rw [show S.2.2.1 a0.toNat = (1, (jty S a0).2) from hp0] at this
      exact this
    have f1 : ∀ j, R32 (S.2.2.2 a.toNat j) := fun j => by
      have := hwf a.toNat j
      rw [show S.2.2.1 a.toNat = (1, (jty S a).2) from hp1] at this
      exact this
    show R32 _
    unfold va_cpy
    split
    · exact f0 _
    · exact f1 _
  have hwf2 : jWf (S.1, S.2.1, S.2.2.1, va_up S.2.2.2 a.toNat (va_cpy (S.2.2.2 a0.toNat) (S.2.2.2 a.toNat) sp.toNat dp.toNat n.toNat)) := by
    intro b j
    show jfit (S.2.2.1 b) j (va_up S.2.2.2 a.toNat _ b j)
    by_cases hb : b = a.toNat
    · rw [hb, va_up_self, show S.2.2.1 a.toNat = (1, (jty S a).2) from hp1]
      exact hfit j
    · rw [va_up_ne _ _ hb]
      exact hwf b j
  obtain ⟨g1, g3⟩ := h _ hwf2 r Se ho
  refine ⟨g1, fun p e R s m args below meth c H locs ls ok a1 a2 a3 a4 a5 a6 a7 a8 a9 a10 => ?_⟩
  have hg0 := a8.get hp0 (Nat.le_of_ble_eq_true rfl)
  have hg1 := a8.get hp1 (Nat.le_of_ble_eq_true rfl)
  have hB : G.2.1 ≤ s.heap.size := ok.2.2.2.2.2.2.2.2.2.1
  have hnf : nativeFrameWords "java/lang/System" "arraycopy" 5 + 11 ≤ 50 := by decide
  refine va_copyi (ty := .int) (D := G.2.2.1) (cl := vwCl) (tys := jtys G) (ws := jwd G S) ok.1 ok.2.1 (by rw [ok.2.2.1]; exact a10.1.symm) ok.2.2.2.1 (ok.2.2.2.2.1 _ hw1) (ok.2.2.2.2.1 _ hw2) (ok.2.2.2.2.1 _ hw3) (ok.2.2.2.2.1 _ hw4) ok.2.2.2.2.2.1.1 a8.2.2.2.1 jwd_D a9 _ _ 0 0 hg0 hg1 rfl rfl rfl (by rw [jlt_of0 h1]; omega) (by rw [jlt_of0 h2]; omega) (by rw [jlt_of0 h3]; omega) (by rw [jclamp_of h1 s1, jclamp_of h3 s3]; omega) (by rw [jclamp_of h2 s2, jclamp_of h3 s3]; omega) (fun i _ => rfl) (by omega) (by rw [jcats st]; omega) hd (fun H1 locs1 hP1 _ hS1 => W_size fun hsz => ?_)
  rw [jclamp_of h1 s1, jclamp_of h2 s2, jclamp_of h3 s3] at hP1
  have hin := a8.in (a := a) (by rw [p1]; decide)
  have hge : S.1 ≤ H1.size := jsize_ge (S := S) hB hS1 (by rw [jwd_set hin.1 hin.2] at hP1; exact hP1)
  have hsz2 : H1.size = H.size := by rw [a8.1]; omega
  refine g3 p e R s m args below meth c H1 locs1 ls ok a1 a2 a3 a4 a5 a6 a7 (a8.putv hp1 (Nat.le_of_ble_eq_true rfl) hfit ?_ hsz2 (jbelow hB a9 hS1) hP1).1 hS1 a10
  show (Sum.inl (G.2.2.2.1 1, (jty S a).2, Sum.inl _) : va_E) = Sum.inl (G.2.2.2.1 1, (jty S a).2, Sum.inl _)
  congr 4
  funext j
  unfold va_cpy
  split <;> rfl
theorem j_clone {idx idx2 : Nat} {a : Int} {f : Int → jSt → Option (Int × jSt)} (hw1 : Cond.methodLink y.cls idx ⟨"[I", "clone", "()Ljava/lang/Object;"⟩ ∈ lw_g) (hw2 : Cond.sameMethod "[I" "java/lang/Object" "clone" "()Ljava/lang/Object;" ∈ lw_g) (hw3 : Cond.native ⟨"java/lang/Object", "clone", "()Ljava/lang/Object;"⟩ ∈ lw_g) (hw4 : Cond.instanceMethod ⟨"java/lang/Object", "clone", "()Ljava/lang/Object;"⟩ ∈ lw_g) (hw5 : Cond.selects "[I" ⟨"[I", "clone", "()Ljava/lang/Object;"⟩ ⟨"java/lang/Object", "clone", "()Ljava/lang/Object;"⟩ ∈ lw_g) (hw6 : Cond.classLink y.cls idx2 "[I" ∈ lw_g) (hst : jwords st ≤ 8) (hd1 : 1 ≤ d) (hd : decode cc pc = .ok (.invokevirtual idx, 3)) (hd2 : decode cc (pc + 3) = .ok (.checkcast idx2, 3))
    (h : ∀ (b : Int) (S1 : jSt), 0 ≤ b → J G y cc nL rT d S0 (pc + 6) lv ((2, b) :: st) S1 (f b S1)) : J G y cc nL rT d S0 pc lv ((2, a) :: st) S (fclone S a f) := by
  unfold fclone
  refine j_guard fun hq => ?_
  have hp := jpair hq
  intro hwf
  refine j_al (t := (1, (jty S a).2)) (N := (jty S a).2) (v := S.2.2.2 a.toNat) (st' := st) (Nat.le_of_ble_eq_true rfl) (fun j => by
    have := hwf a.toNat j
    rw [show S.2.2.1 a.toNat = (1, (jty S a).2) from hp] at this
    exact this) (fun {p e R s m args below meth c0 H locs cells slots Q ls} ok hR hS hls hf hl hc1 hs1 kk => ?_) (h _ _ (by omega)) hwf
  have hg := hR.get hp (Nat.le_of_ble_eq_true rfl)
  have hnm : s.vm.findClass "[I" = some (G.2.2.2.1 1) := (jK_arr ok.2.2.2.2.2.1 0 rfl).2
  refine va_clone (ty := .int) (D := G.2.2.1) (cl := vwCl) (tys := jtys G) (ws := jwd G S) ok.1 ok.2.1 (by rw [ok.2.2.1]; exact hls.symm) ok.2.2.2.1 (ok.2.2.2.2.1 _ hw1) (ok.2.2.2.2.1 _ hw2) (ok.2.2.2.2.1 _ hw3) (ok.2.2.2.2.1 _ hw4) (ok.2.2.2.2.1 _ hw5) ok.2.2.2.2.2.1.2.1.2.2.2.2 ok.2.2.2.2.2.1.1 hR.2.2.2.1 jwd_D hS (fun q hq => Nat.le_trans ok.2.2.2.2.2.2.2.2.2.1 hq) _ 0 hg rfl hnm (fun i v hv => ?_) (by omega) (by rw [jcats]; omega) hc1 hs1 hd (fun q H1 hK1 hP1 hD1 hS1 => ?_)
  · rw [vp_cell_i] at hv
    have hi : i < (jty S a).2 := by
      have := k2_hasslot hv
      rw [arrV_size] at this
      exact this
    rw [arrV_read _ _ hi] at hv
    cases hv
    rfl
  · have hlen : (jwd G S).length = S.1 - G.2.1 := by unfold jwd va_pl; rw [List.length_map, List.length_range']
    have hat : (jwd G S ++ [(q, (Sum.inl (G.2.2.2.1 1, (jty S a).2, Sum.inl fun j => Int32.ofInt (S.2.2.2 a.toNat j)) : va_E))])[S.1 - G.2.1]? = some (q, (Sum.inl (G.2.2.2.1 1, (jty S a).2, Sum.inl fun j => Int32.ofInt (S.2.2.2 a.toNat j)) : va_E)) := by
      rw [List.getElem?_append_right (by omega), hlen, Nat.sub_self]; rfl
    exact va_castA (nm := "[I") (D := G.2.2.1) (cl := vwCl) (ws := jwd G S ++ [(q, (Sum.inl (G.2.2.2.1 1, (jty S a).2, Sum.inl fun j => Int32.ofInt (S.2.2.2 a.toNat j)) : va_E))]) ok.1 ok.2.1 ok.2.2.2.1 (ok.2.2.2.2.1 _ hw6) hP1 _ hat hnm hd2 (kk q H1 hP1 hD1 hS1)
end JE
