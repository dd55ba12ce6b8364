-- a method's room: d frames
def jrm (d k n : Nat) : Room := { frames := d, cells := k, slots := n, locals := 64 * d }
def jov (rT : Option FieldType) (r : Int) : Option Value := match rT with
  | none => none
  | some t => some (jval (jtag t, r))
def jrr (rT : Option FieldType) (r : Int) : Prop := match rT with
  | none => True
  | some t => jrg t r
def jPu (S : jSt) (rT : Option FieldType) (r : Int) (Se : jSt) : Prop := S.1 ≤ Se.1 ∧ S.2.1 ≤ Se.2.1 ∧ jrr rT r ∧ jWf Se
def jQ (G : jG) (rT : Option FieldType) (r : Int) (Se : jSt) : Array Value → State → Outcome → State → Prop := fun _ s o t =>
  o = .returned (jov rT r) ∧ jRep G Se t.heap ∧ va_F (jA G) s t
def jok (G : jG) (y : MethodName) (cc : ByteArray) (nL : Nat) (rT : Option FieldType) (p : Program) (s : State) (m : MethodId) (args : Array Value) (meth : Method) (c : Code) : Prop :=
  p.tables.exec = Jvm.exec ∧ c.code = cc ∧ c.maxLocals = nL ∧ s.vm.findClass y.cls = some m.cls ∧ (∀ w ∈ lw_g, w.before args s = true) ∧ jK G s ∧ meth.locks = false ∧ meth.sig.returnType = rT ∧ (y.name = "<init>" → meth.name = "<init>") ∧ G.2.1 ≤ s.heap.size ∧ ∀ q : Nat, q < G.2.1 → s.heap[q]? = G.2.2.2.2.1[q]?
/-- from here the method comes to its end, as the functional computation o has it (if it has an end) -/
def J (G : jG) (y : MethodName) (cc : ByteArray) (nL : Nat) (rT : Option FieldType) (d : Nat) (S0 : jSt) (pc : Nat) (lv : jLv) (st : jSk) (S : jSt) (o : Option (Int × jSt)) : Prop :=
  jWf S → ∀ (r : Int) (Se : jSt), o = some (r, Se) → jPu S rT r Se ∧
    ∀ (p : Program) (e : Env) (R : Room) (s : State) (m : MethodId) (args : Array Value) (below : List Frame) (meth : Method) (c : Code) (H : Heap) (locs : List Loc) (ls : Array Slot),
      jok G y cc nL rT p s m args meth c → s.heap.size = S0.1 → S0.1 ≤ S.1 → S0.2.1 ≤ S.2.1 → d ≤ R.frames → 64 * d ≤ R.locals → Se.1 - S0.1 ≤ R.cells → Se.2.1 - S0.2.1 ≤ R.slots → jRep G S H → va_S (jA G) s.heap H locs → lv_has ls nL (jlm lv) →
      W p G.1 e R s m args below meth c H locs (S.1 - S0.1) (S.2.1 - S0.2.1) (MQ below (jQ G rT r Se) args s (Se.1 - S0.1) (Se.2.1 - S0.2.1) (jA G)) (F0 m pc ls (st.map jval))
/-- a method's contract: called with these values on this heap it returns as o has it (if o has an end) -/
def CT (G : jG) (y : MethodName) (cc : ByteArray) (nL : Nat) (rT : Option FieldType) (d : Nat) (av : List Value) (S : jSt) (o : Option (Int × jSt)) : Prop :=
  jWf S → ∀ (r : Int) (Se : jSt), o = some (r, Se) → jPu S rT r Se ∧ Met G.1 y (Cond.code y cc nL rT :: lw_g) (jrm d (Se.1 - S.1) (Se.2.1 - S.2.1)) (va_Pc av (fun U => jRep G S U.heap ∧ jK G U)) (jQ G rT r Se) (Se.1 - S.1) (Se.2.1 - S.2.1) (jA G)
def jargs : Nat → jSk → jLv
  | _, [] => []
  | i, v :: vs => (i, v) :: jargs (if v.1 = 1 then i + 2 else i + 1) vs
def jwords : jSk → Nat
  | [] => 0
  | v :: vs => (if v.1 = 1 then 2 else 1) + jwords vs
theorem jargs_lm : ∀ (av : jSk) (k : Nat), lv_args k (av.map jval) = jlm (jargs k av)
  | [], _ => rfl
  | v :: vs, k => by
    show (k, jval v) :: lv_args (if (jval v).category = 2 then k + 2 else k + 1) (vs.map jval) = (k, jval v) :: jlm (jargs (if v.1 = 1 then k + 2 else k + 1) vs)
    rw [jargs_lm vs, jval_cat]
    by_cases h : v.1 = 1 <;> simp [h]
theorem jwords_len : ∀ av : jSk, (lg_sl (av.map jval)).length = jwords av
  | [] => rfl
  | v :: vs => by
    have ih := jwords_len vs
    unfold lg_sl at ih ⊢
    rw [List.map_cons, List.flatMap_cons, List.length_append, ih, jval_cat]
    by_cases h : v.1 = 1 <;> simp [h, jwords]
theorem ct_of {G : jG} {y : MethodName} {cc : ByteArray} {nL : Nat} {rT : Option FieldType} {d : Nat} {S : jSt} {o : Option (Int × jSt)} {lv : jLv} (av : jSk) (hy : plainName y.cls = true) (hlv : jargs 0 av = lv) (hn : jwords av ≤ nL) (h : J G y cc nL rT d S 0 lv [] S o) : CT G y cc nL rT d (av.map jval) S o := by
  intro hwf r Se ho
  obtain ⟨h1, h3⟩ := h hwf r Se ho
  refine ⟨h1, Met.ofW (cc := cc) (maxL := nL) (ret := rT) hy rfl ?_⟩
  intro p e s m args below meth c s₁ B hml hv
  obtain ⟨rfl, hR, hK⟩ := hv
  have hts := atoms_spec (ws := Cond.code y cc nL rT :: lw_g) B.pre
  have hl := lv_entry (av.map jval) (n := nL) (by rw [jwords_len]; exact hn)
  rw [jargs_lm, hlv] at hl
  rw [lg_entry_eq]
  have h4 := h3 p e (headSpec (Cond.code y cc nL rT :: lw_g) (jrm d (Se.1 - S.1) (Se.2.1 - S.2.1))).room s m _ below meth c s.heap [] _ ⟨B.exec, B.bytes, hml, findClass_of_methodNamed B.named, fun w hw => hts w (List.mem_cons_of_mem _ hw), hK, B.notSynchronized, B.returns, fun h => (name_of_methodNamed B.named B.method).1.trans h, by rw [hR.1]; exact hR.2.1, hR.2.2.1⟩ hR.1 (Nat.le_refl _) (Nat.le_refl _) (Nat.le_refl _) (Nat.le_refl _) (Nat.le_refl _) (Nat.le_refl _) hR va_S.rf hl
  rw [Nat.sub_self, Nat.sub_self] at h4
  exact h4
section JR
variable {G : jG} {y : MethodName} {cc : ByteArray} {nL : Nat} {rT : Option FieldType} {d : Nat} {S0 S : jSt} {pc : Nat} {lv : jLv} {st : jSk} {o : Option (Int × jSt)}
theorem j_none : J G y cc nL rT d S0 pc lv st S none := fun _ _ _ h => by cases h
theorem j_lift {pc' : Nat} {st' : jSk} (hw : ∀ {p : Program} {l : Launch} {e : Env} {R : Room} {s : State} {m : MethodId} {args : Array Value} {below : List Frame} {meth : Method} {c : Code} {H : Heap} {locs : List Loc} {cells slots : Nat} {Q : State → Prop} {ls : Array Slot}, p.tables.exec = Jvm.exec → c.code = cc → lv_has ls nL (jlm lv) → W p l e R s m args below meth c H locs cells slots Q (F0 m pc' ls (st'.map jval)) → W p l e R s m args below meth c H locs cells slots Q (F0 m pc ls (st.map jval)))
    (h : J G y cc nL rT d S0 pc' lv st' S o) : J G y cc nL rT d S0 pc lv st S o := fun hwf r Se ho =>
  let ⟨h1, h3⟩ := h hwf r Se ho
  ⟨h1, fun p e R s m args below meth c H locs ls ok a1 a2 a3 a4 a5 a6 a7 a8 a9 a10 => hw ok.1 ok.2.1 a10 (h3 p e R s m args below meth c H locs ls ok a1 a2 a3 a4 a5 a6 a7 a8 a9 a10)⟩
/-- fewer locals are known -/
theorem j_sub {lv' : jLv} (ks : List Nat) (hs : ks.filterMap (fun k => lv[k]?) = lv') (h : J G y cc nL rT d S0 pc lv' st S o) : J G y cc nL rT d S0 pc lv st S o := fun hwf r Se ho =>
  let ⟨h1, h3⟩ := h hwf r Se ho
  ⟨h1, fun p e R s m args below meth c H locs ls ok a1 a2 a3 a4 a5 a6 a7 a8 a9 a10 => h3 p e R s m args below meth c H locs ls ok a1 a2 a3 a4 a5 a6 a7 a8 a9 (jlm_sub a10 ks hs)⟩
theorem j_iconst {n : Int} (hd : decode cc pc = .ok (.iconst n, 1)) (h : J G y cc nL rT d S0 (pc + 1) lv ((0, n) :: st) S o) : J G y cc nL rT d S0 pc lv st S o := j_lift (fun hx hb _ k => lv_iconst hx hb hd rfl k) h
theorem j_bipush {n : Int} (hd : decode cc pc = .ok (.bipush n, 2)) (hn : (Int8.ofInt n).toInt32 = Int32.ofInt n) (h : J G y cc nL rT d S0 (pc + 2) lv ((0, n) :: st) S o) : J G y cc nL rT d S0 pc lv st S o := j_lift (fun hx hb _ k => lv_bipush hx hb hd hn k) h
theorem j_sipush {n : Int} (hd : decode cc pc = .ok (.sipush n, 3)) (hn : (Int16.ofInt n).toInt32 = Int32.ofInt n) (h : J G y cc nL rT d S0 (pc + 3) lv ((0, n) :: st) S o) : J G y cc nL rT d S0 pc lv st S o := j_lift (fun hx hb _ k => lv_sipush hx hb hd hn k) h
theorem j_lconst {n : Fin 2} {z : Int} (hd : decode cc pc = .ok (.lconst n, 1)) (hn : Int64.ofNat (n : Nat) = Int64.ofInt z) (h : J G y cc nL rT d S0 (pc + 1) lv ((1, z) :: st) S o) : J G y cc nL rT d S0 pc lv st S o := j_lift (fun hx hb _ k => lv_lconst hx hb hd hn k) h
theorem j_iload_n {k : Fin 4} {i : Nat} {z : Int} (q : Nat) (hd : decode cc pc = .ok (.iload_n k, 1)) (hi : (k : Nat) = i) (hq : lv[q]? = some (i, 0, z)) (h : J G y cc nL rT d S0 (pc + 1) lv ((0, z) :: st) S o) : J G y cc nL rT d S0 pc lv st S o := j_lift (fun hx hb hl k => lv_iload_n hx hb hd hi (jlm_at hl q hq) k) h
theorem j_iload {i : Nat} {z : Int} (q : Nat) (hd : decode cc pc = .ok (.iload i, 2)) (hq : lv[q]? = some (i, 0, z)) (h : J G y cc nL rT d S0 (pc + 2) lv ((0, z) :: st) S o) : J G y cc nL rT d S0 pc lv st S o := j_lift (fun hx hb hl k => lv_iload hx hb hd (jlm_at hl q hq) k) h
theorem j_lload_n {k : Fin 4} {i : Nat} {z : Int} (q : Nat) (hd : decode cc pc = .ok (.lload_n k, 1)) (hi : (k : Nat) = i) (hq : lv[q]? = some (i, 1, z)) (h : J G y cc nL rT d S0 (pc + 1) lv ((1, z) :: st) S o) : J G y cc nL rT d S0 pc lv st S o := j_lift (fun hx hb hl k => lv_lload_n hx hb hd hi (jlm_at hl q hq) k) h
theorem j_lload {i : Nat} {z : Int} (q : Nat) (hd : decode cc pc = .ok (.lload i, 2)) (hq : lv[q]? = some (i, 1, z)) (h : J G y cc nL rT d S0 (pc + 2) lv ((1, z) :: st) S o) : J G y cc nL rT d S0 pc lv st S o := j_lift (fun hx hb hl k => lv_lload hx hb hd (jlm_at hl q hq) k) h
theorem j_aload_n {k : Fin 4} {i : Nat} {z : Int} (q : Nat) (hd : decode cc pc = .ok (.aload_n k, 1)) (hi : (k : Nat) = i) (hq : lv[q]? = some (i, 2, z)) (h : J G y cc nL rT d S0 (pc + 1) lv ((2, z) :: st) S o) : J G y cc nL rT d S0 pc lv st S o := j_lift (fun hx hb hl k => lv_aload_n hx hb hd hi (jlm_at hl q hq) k) h
theorem j_aload {i : Nat} {z : Int} (q : Nat) (hd : decode cc pc = .ok (.aload i, 2)) (hq : lv[q]? = some (i, 2, z)) (h : J G y cc nL rT d S0 (pc + 2) lv ((2, z) :: st) S o) : J G y cc nL rT d S0 pc lv st S o := j_lift (fun hx hb hl k => lv_aload hx hb hd (jlm_at hl q hq) k) h
theorem jval3n {z : Int} (h : z < 0) : jval (3, z) = .null := by show (if z < 0 then Value.null else _) = _; rw [if_pos h]
theorem jval3r {z : Int} (h : ¬ z < 0) : jval (3, z) = jval (2, z) := by show (if z < 0 then Value.null else Value.ref z.toNat) = _; rw [if_neg h]; rfl
theorem j_aload_nq {k : Fin 4} {i : Nat} {z : Int} (q : Nat) (hd : decode cc pc = .ok (.aload_n k, 1)) (hi : (k : Nat) = i) (hq : lv[q]? = some (i, 3, z)) (h : J G y cc nL rT d S0 (pc + 1) lv ((3, z) :: st) S o) : J G y cc nL rT d S0 pc lv st S o := j_lift (fun hx hb hl k => by
  have h9 := jlm_at hl q hq
  rw [List.map_cons] at k
  by_cases hz : z < 0
  · rw [jval3n hz] at h9 k
    exact lv_aload_nN hx hb hd hi h9 k
  · rw [jval3r hz] at h9 k
    exact lv_aload_n hx hb hd hi h9 k) h
theorem j_aloadq {i : Nat} {z : Int} (q : Nat) (hd : decode cc pc = .ok (.aload i, 2)) (hq : lv[q]? = some (i, 3, z)) (h : J G y cc nL rT d S0 (pc + 2) lv ((3, z) :: st) S o) : J G y cc nL rT d S0 pc lv st S o := j_lift (fun hx hb hl k => by
  have h9 := jlm_at hl q hq
  rw [List.map_cons] at k
  by_cases hz : z < 0
  · rw [jval3n hz] at h9 k
    exact lv_aloadN hx hb hd h9 k
  · rw [jval3r hz] at h9 k
    exact lv_aload hx hb hd h9 k) h
theorem j_null (hd : decode cc pc = .ok (.aconst_null, 1)) (h : J G y cc nL rT d S0 (pc + 1) lv ((3, -1) :: st) S o) : J G y cc nL rT d S0 pc lv st S o := j_lift (fun hx hb _ k => lv_null hx hb hd k) h
theorem j_iadd {a b : Int} (hd : decode cc pc = .ok (.iadd, 1)) (h : J G y cc nL rT d S0 (pc + 1) lv ((0, w32 (a + b)) :: st) S o) : J G y cc nL rT d S0 pc lv ((0, b) :: (0, a) :: st) S o := j_lift (fun hx hb _ k => lv_iadd hx hb hd (by
  have e : Int32.ofInt a + Int32.ofInt b = Int32.ofInt (w32 (a + b)) := by rw [of_w32, Int32.ofInt_add]
  rw [e]; exact k)) h
theorem j_isub {a b : Int} (hd : decode cc pc = .ok (.isub, 1)) (h : J G y cc nL rT d S0 (pc + 1) lv ((0, w32 (a - b)) :: st) S o) : J G y cc nL rT d S0 pc lv ((0, b) :: (0, a) :: st) S o := j_lift (fun hx hb _ k => lv_isub hx hb hd (by
  have e : Int32.ofInt a - Int32.ofInt b = Int32.ofInt (w32 (a - b)) := by rw [of_w32, Int32.ofInt_sub]
  rw [e]; exact k)) h
theorem j_imul {a b : Int} (hd : decode cc pc = .ok (.imul, 1)) (h : J G y cc nL rT d S0 (pc + 1) lv ((0, w32 (a * b)) :: st) S o) : J G y cc nL rT d S0 pc lv ((0, b) :: (0, a) :: st) S o := j_lift (fun hx hb _ k => lv_imul hx hb hd (by
  have e : Int32.ofInt a * Int32.ofInt b = Int32.ofInt (w32 (a * b)) := by rw [of_w32, Int32.ofInt_mul]
  rw [e]; exact k)) h
theorem j_ineg {a : Int} (hd : decode cc pc = .ok (.ineg, 1)) (h : J G y cc nL rT d S0 (pc + 1) lv ((0, w32 (-a)) :: st) S o) : J G y cc nL rT d S0 pc lv ((0, a) :: st) S o := j_lift (fun hx hb _ k => lv_ineg hx hb hd (by
  have e : -Int32.ofInt a = Int32.ofInt (w32 (-a)) := by rw [of_w32, Int32.ofInt_neg]
  rw [e]; exact k)) h
theorem j_iand {a b : Int} (hd : decode cc pc = .ok (.iand, 1)) (h : J G y cc nL rT d S0 (pc + 1) lv ((0, iand32 a b) :: st) S o) : J G y cc nL rT d S0 pc lv ((0, b) :: (0, a) :: st) S o := j_lift (fun hx hb _ k => lv_iand hx hb hd (by
  have e : Int32.ofInt a &&& Int32.ofInt b = Int32.ofInt (iand32 a b) := (jof_toInt _).symm
  rw [e]; exact k)) h
theorem j_ior {a b : Int} (hd : decode cc pc = .ok (.ior, 1)) (h : J G y cc nL rT d S0 (pc + 1) lv ((0, ior32 a b) :: st) S o) : J G y cc nL rT d S0 pc lv ((0, b) :: (0, a) :: st) S o := j_lift (fun hx hb _ k => lv_ior hx hb hd (by
  have e : Int32.ofInt a ||| Int32.ofInt b = Int32.ofInt (ior32 a b) := (jof_toInt _).symm
  rw [e]; exact k)) h
theorem j_ixor {a b : Int} (hd : decode cc pc = .ok (.ixor, 1)) (h : J G y cc nL rT d S0 (pc + 1) lv ((0, ixor32 a b) :: st) S o) : J G y cc nL rT d S0 pc lv ((0, b) :: (0, a) :: st) S o := j_lift (fun hx hb _ k => lv_ixor hx hb hd (by
  have e : Int32.ofInt a ^^^ Int32.ofInt b = Int32.ofInt (ixor32 a b) := (jof_toInt _).symm
  rw [e]; exact k)) h
theorem j_ishl {a b : Int} (hd : decode cc pc = .ok (.ishl, 1)) (h : J G y cc nL rT d S0 (pc + 1) lv ((0, ishl32 a b) :: st) S o) : J G y cc nL rT d S0 pc lv ((0, b) :: (0, a) :: st) S o := j_lift (fun hx hb _ k => lv_ishl hx hb hd (by
  have e : Int32.ofInt a <<< (Int32.ofInt b &&& 31) = Int32.ofInt (ishl32 a b) := (jof_toInt _).symm
  rw [e]; exact k)) h
theorem j_ishr {a b : Int} (hd : decode cc pc = .ok (.ishr, 1)) (h : J G y cc nL rT d S0 (pc + 1) lv ((0, ishr32 a b) :: st) S o) : J G y cc nL rT d S0 pc lv ((0, b) :: (0, a) :: st) S o := j_lift (fun hx hb _ k => lv_ishr hx hb hd (by
  have e : Int32.ofInt a >>> (Int32.ofInt b &&& 31) = Int32.ofInt (ishr32 a b) := (jof_toInt _).symm
  rw [e]; exact k)) h
theorem j_iushr {a b : Int} (hd : decode cc pc = .ok (.iushr, 1)) (h : J G y cc nL rT d S0 (pc + 1) lv ((0, iushr32 a b) :: st) S o) : J G y cc nL rT d S0 pc lv ((0, b) :: (0, a) :: st) S o := j_lift (fun hx hb _ k => lv_iushr hx hb hd (jof_toInt _).symm k) h
theorem j_i2l {a : Int} (ha : R32 a) (hd : decode cc pc = .ok (.i2l, 1)) (h : J G y cc nL rT d S0 (pc + 1) lv ((1, a) :: st) S o) : J G y cc nL rT d S0 pc lv ((0, a) :: st) S o := j_lift (fun hx hb _ k => lv_i2l hx hb hd (by rw [← Int64.toInt_inj, Int32.toInt_toInt64, jto_of ha, jto_of64 (R32_R64 ha)]) k) h
theorem j_l2i {a : Int} (hd : decode cc pc = .ok (.l2i, 1)) (h : J G y cc nL rT d S0 (pc + 1) lv ((0, w32 a) :: st) S o) : J G y cc nL rT d S0 pc lv ((1, a) :: st) S o := j_lift (fun hx hb _ k => lv_l2i hx hb hd (by rw [of_w32, Int64.toInt32_ofInt]) k) h
theorem j_i2c {a : Int} (hd : decode cc pc = .ok (.i2c, 1)) (h : J G y cc nL rT d S0 (pc + 1) lv ((0, i2c32 a) :: st) S o) : J G y cc nL rT d S0 pc lv ((0, a) :: st) S o := j_lift (fun hx hb _ k => lv_i2c hx hb hd (jof_toInt _).symm k) h
theorem j_ladd {a b : Int} (hd : decode cc pc = .ok (.ladd, 1)) (h : J G y cc nL rT d S0 (pc + 1) lv ((1, w64 (a + b)) :: st) S o) : J G y cc nL rT d S0 pc lv ((1, b) :: (1, a) :: st) S o := j_lift (fun hx hb _ k => lv_ladd hx hb hd (by
  have e : Int64.ofInt a + Int64.ofInt b = Int64.ofInt (w64 (a + b)) := by rw [of_w64, Int64.ofInt_add]
  rw [e]; exact k)) h
theorem j_lsub {a b : Int} (hd : decode cc pc = .ok (.lsub, 1)) (h : J G y cc nL rT d S0 (pc + 1) lv ((1, w64 (a - b)) :: st) S o) : J G y cc nL rT d S0 pc lv ((1, b) :: (1, a) :: st) S o := j_lift (fun hx hb _ k => lv_lsub hx hb hd (by
  have e : Int64.ofInt a - Int64.ofInt b = Int64.ofInt (w64 (a - b)) := by rw [of_w64, Int64.ofInt_sub]
  rw [e]; exact k)) h
theorem j_lmul {a b : Int} (hd : decode cc pc = .ok (.lmul, 1)) (h : J G y cc nL rT d S0 (pc + 1) lv ((1, w64 (a * b)) :: st) S o) : J G y cc nL rT d S0 pc lv ((1, b) :: (1, a) :: st) S o := j_lift (fun hx hb _ k => lv_lmul hx hb hd (by
  have e : Int64.ofInt a * Int64.ofInt b = Int64.ofInt (w64 (a * b)) := by rw [of_w64, Int64.ofInt_mul]
  rw [e]; exact k)) h
theorem j_lneg {a : Int} (hd : decode cc pc = .ok (.lneg, 1)) (h : J G y cc nL rT d S0 (pc + 1) lv ((1, w64 (-a)) :: st) S o) : J G y cc nL rT d S0 pc lv ((1, a) :: st) S o := j_lift (fun hx hb _ k => lv_lneg hx hb hd (by
  have e : -Int64.ofInt a = Int64.ofInt (w64 (-a)) := by rw [of_w64, Int64.ofInt_neg]
  rw [e]; exact k)) h
theorem j_lor {a b : Int} (hd : decode cc pc = .ok (.lor, 1)) (h : J G y cc nL rT d S0 (pc + 1) lv ((1, lor64 a b) :: st) S o) : J G y cc nL rT d S0 pc lv ((1, b) :: (1, a) :: st) S o := j_lift (fun hx hb _ k => lv_lor hx hb hd (by
  have e : Int64.ofInt a ||| Int64.ofInt b = Int64.ofInt (lor64 a b) := (jof_toInt64 _).symm
  rw [e]; exact k)) h
theorem j_lshl {a b : Int} (hd : decode cc pc = .ok (.lshl, 1)) (h : J G y cc nL rT d S0 (pc + 1) lv ((1, lshl64 a b) :: st) S o) : J G y cc nL rT d S0 pc lv ((0, b) :: (1, a) :: st) S o := j_lift (fun hx hb _ k => lv_lshl hx hb hd (jof_toInt64 _).symm k) h
theorem j_lshr {a b : Int} (hd : decode cc pc = .ok (.lshr, 1)) (h : J G y cc nL rT d S0 (pc + 1) lv ((1, lshr64 a b) :: st) S o) : J G y cc nL rT d S0 pc lv ((0, b) :: (1, a) :: st) S o := j_lift (fun hx hb _ k => lv_lshr hx hb hd (jof_toInt64 _).symm k) h
theorem j_dup {v : Nat × Int} (hd : decode cc pc = .ok (.dup, 1)) (hv : v.1 ≠ 1) (h : J G y cc nL rT d S0 (pc + 1) lv (v :: v :: st) S o) : J G y cc nL rT d S0 pc lv (v :: st) S o := j_lift (fun hx hb _ k => lv_dup hx hb hd (by rw [jval_cat, if_neg hv]) k) h
theorem j_dup2 {v w : Nat × Int} (hd : decode cc pc = .ok (.dup2, 1)) (hv : v.1 ≠ 1) (hw : w.1 ≠ 1) (h : J G y cc nL rT d S0 (pc + 1) lv (v :: w :: v :: w :: st) S o) : J G y cc nL rT d S0 pc lv (v :: w :: st) S o := j_lift (fun hx hb _ k => lv_dup2_11 hx hb hd (by rw [jval_cat, if_neg hv]) (by rw [jval_cat, if_neg hw]) k) h
theorem j_pop {v : Nat × Int} (hd : decode cc pc = .ok (.pop, 1)) (hv : v.1 ≠ 1) (h : J G y cc nL rT d S0 (pc + 1) lv st S o) : J G y cc nL rT d S0 pc lv (v :: st) S o := j_lift (fun hx hb _ k => lv_pop hx hb hd (by rw [jval_cat, if_neg hv]) k) h
theorem j_goto {off : Int} {tgt : Nat} (hd : decode cc pc = .ok (.goto off, 3)) (ht : (pc : Int) + off = (tgt : Int)) (h : J G y cc nL rT d S0 tgt lv st S o) : J G y cc nL rT d S0 pc lv st S o := j_lift (fun hx hb _ k => lv_goto hx hb hd ht k) h
end JR
