-- the text constant: its methods
def fsld (L : Nat) (xs : Nat → Int32) (i : Int) (f : Int → Option (Int × jSt)) : Option (Int × jSt) := if 0 ≤ i ∧ i < (L : Int) then f (xs i.toNat).toInt else none
def fslen (L : Nat) (f : Int → Option (Int × jSt)) : Option (Int × jSt) := if L < 2147483648 then f (L : Int) else none
def jch (i : Int) : Int := iand32 ((jBy.getD i.toNat 0).toInt) 255
section JZ
variable {G : jG} {y : MethodName} {cc : ByteArray} {nL : Nat} {rT : Option FieldType} {d : Nat} {S0 S : jSt} {pc : Nat} {lv : jLv} {st : jSk} {o : Option (Int × jSt)}
theorem jok_kept {p : Program} {s : State} {m : MethodId} {args : Array Value} {meth : Method} {c : Code} (ok : jok G y cc nL rT p s m args meth c) : ∀ a : Nat, a < G.2.2.2.2.1.size → ¬ jA G a → s.heap[a]? = G.2.2.2.2.1[a]? := fun a _ h => ok.2.2.2.2.2.2.2.2.2.2 a (by
  have h9 : ¬ G.2.1 ≤ a := h
  omega)
theorem jok_S {p : Program} {s : State} {m : MethodId} {args : Array Value} {meth : Method} {c : Code} (ok : jok G y cc nL rT p s m args meth c) : vk_S 1 [143] [jBy] (fun _ => G.2.2.2.2.2.1) (fun _ => G.2.2.2.2.2.2.1) (jA G) s s.heap := ok.2.2.2.2.2.1.2.2.2.1.kept (jok_kept ok)
/-- a step that looks at what stands below the heap's own part -/
theorem j_lo {pc' : Nat} {st' : jSk} (hw : ∀ {p : Program} {e : Env} {R : Room} {s : State} {m : MethodId} {args : Array Value} {below : List Frame} {meth : Method} {c0 : Code} {H : Heap} {locs : List Loc} {cells slots : Nat} {Q : State → Prop} {ls : Array Slot}, jok G y cc nL rT p s m args meth c0 → va_S (jA G) s.heap H locs → W p G.1 e R s m args below meth c0 H locs cells slots Q (F0 m pc' ls (st'.map jval)) → W p G.1 e R s m args below meth c0 H locs cells slots Q (F0 m pc ls (st.map jval)))
    (h : J G y cc nL rT d S0 pc' lv st' S o) : J G y cc nL rT d S0 pc lv st S o := fun hwf r Se ho =>
  let ⟨h1, h3⟩ := h hwf r Se ho
  ⟨h1, fun p e R s m args below meth c H locs ls ok a1 a2 a3 a4 a5 a6 a7 a8 a9 a10 => hw ok a9 (h3 p e R s m args below meth c H locs ls ok a1 a2 a3 a4 a5 a6 a7 a8 a9 a10)⟩
theorem j_gets {idx : Nat} (hw : Cond.fieldLink y.cls idx "java/lang/String" "COMPACT_STRINGS" "Z" ∈ lw_g) (hd : decode cc pc = .ok (.getstatic idx, 3)) (h : J G y cc nL rT d S0 (pc + 3) lv ((0, 1) :: st) S o) : J G y cc nL rT d S0 pc lv st S o := j_lo (fun ok hS k => va_gets (A := jA G) ok.1 ok.2.1 (ok.2.2.2.2.2.1.2.2.2.2.1.kept (jok_kept ok)) hS ok.2.2.2.1 (ok.2.2.2.2.1 _ hw) (fun _ h9 => h9) hd k) h
theorem j_getsq {idx : Nat} (hw : Cond.fieldLink y.cls idx "jdk/internal/util/Preconditions" "SIOOBE_FORMATTER" "Ljava/util/function/BiFunction;" ∈ lw_g) (hd : decode cc pc = .ok (.getstatic idx, 3)) (h : ∀ z : Int, J G y cc nL rT d S0 (pc + 3) lv ((3, z) :: st) S o) : J G y cc nL rT d S0 pc lv st S o := by
  intro hwf r Se ho
  obtain ⟨h1, -⟩ := h 0 hwf r Se ho
  refine ⟨h1, fun p e R s m args below meth c H locs ls ok a1 a2 a3 a4 a5 a6 a7 a8 a9 a10 => ?_⟩
  rcases ok.2.2.2.2.2.1.2.2.2.2.2.1 with hz | ⟨t, hz⟩
  · obtain ⟨-, h3⟩ := h (-1) hwf r Se ho
    exact va_gets (A := jA G) ok.1 ok.2.1 (hz.kept (jok_kept ok)) a9 ok.2.2.2.1 (ok.2.2.2.2.1 _ hw) (fun _ h9 => h9) hd (h3 p e R s m args below meth c H locs ls ok a1 a2 a3 a4 a5 a6 a7 a8 a9 a10)
  · obtain ⟨-, h3⟩ := h (t : Int) hwf r Se ho
    have k9 := h3 p e R s m args below meth c H locs ls ok a1 a2 a3 a4 a5 a6 a7 a8 a9 a10
    rw [List.map_cons, jval3r (show ¬ (t : Int) < 0 by omega)] at k9
    exact va_gets (A := jA G) ok.1 ok.2.1 (hz.kept (jok_kept ok)) a9 ok.2.2.2.1 (ok.2.2.2.2.1 _ hw) (fun _ h9 => h9) hd k9
theorem j_ldcS {a : Int} (hy : y.cls = RX9) (ha : a = ((G.2.2.2.2.2.1 : Nat) : Int)) (hd : decode cc pc = .ok (.ldc 58, 2)) (h : J G y cc nL rT d S0 (pc + 2) lv ((2, a) :: st) S o) : J G y cc nL rT d S0 pc lv st S o := by
  subst ha
  exact j_lo (fun ok hS k => va_ldcS ok.1 ok.2.1 (by rw [← hy]; exact ok.2.2.2.1) ok.2.2.2.2.2.1.2.2.1 hd k) h
theorem j_getV {idx : Nat} {a : Int} (ha : a = ((G.2.2.2.2.2.1 : Nat) : Int)) (hw : Cond.fieldLink y.cls idx "java/lang/String" "value" "[B" ∈ lw_g) (hd : decode cc pc = .ok (.getfield idx, 3)) (h : J G y cc nL rT d S0 (pc + 3) lv ((2, ((G.2.2.2.2.2.2.1 : Nat) : Int)) :: st) S o) : J G y cc nL rT d S0 pc lv ((2, a) :: st) S o := by
  subst ha
  exact j_lo (fun ok hS k => vk_getf (A := jA G) ok.1 ok.2.1 ((jok_S ok).1 0 (by decide)).2.2.1 hS ok.2.2.2.1 (ok.2.2.2.2.1 _ hw) (fun _ h9 => h9) hd k) h
theorem j_getC {idx : Nat} {a : Int} (ha : a = ((G.2.2.2.2.2.1 : Nat) : Int)) (hw : Cond.fieldLink y.cls idx "java/lang/String" "coder" "B" ∈ lw_g) (hd : decode cc pc = .ok (.getfield idx, 3)) (h : J G y cc nL rT d S0 (pc + 3) lv ((0, 0) :: st) S o) : J G y cc nL rT d S0 pc lv ((2, a) :: st) S o := by
  subst ha
  exact j_lo (fun ok hS k => vk_getf (A := jA G) ok.1 ok.2.1 ((jok_S ok).1 0 (by decide)).2.1 hS ok.2.2.2.1 (ok.2.2.2.2.1 _ hw) (fun _ h9 => h9) hd k) h
theorem j_alenV {a : Int} (ha : a = ((G.2.2.2.2.2.2.1 : Nat) : Int)) (hd : decode cc pc = .ok (.arraylength, 1)) (h : J G y cc nL rT d S0 (pc + 1) lv ((0, 143) :: st) S o) : J G y cc nL rT d S0 pc lv ((2, a) :: st) S o := by
  subst ha
  exact j_lo (fun ok hS k => va_tlen (A := jA G) ok.1 ok.2.1 ((jok_S ok).1 0 (by decide)).2.2.2 hS (v := Int32.ofInt 143) (by decide) hd k) h
theorem j_baldV {a i : Int} (ha : a = ((G.2.2.2.2.2.2.1 : Nat) : Int)) (hi : R32 i) (h0 : 0 ≤ i) (h1 : i < 143) (hd : decode cc pc = .ok (.baload, 1)) (h : J G y cc nL rT d S0 (pc + 1) lv ((0, (jBy.getD i.toNat 0).toInt) :: st) S o) : J G y cc nL rT d S0 pc lv ((0, i) :: (2, a) :: st) S o := by
  subst ha
  exact j_lo (fun ok hS k => va_tb (A := jA G) ok.1 ok.2.1 ((jok_S ok).1 0 (by decide)).2.2.2 hS (jin_of hi h0 h1) (v := jval (0, (jBy.getD i.toNat 0).toInt)) (by
    rw [jclamp_of hi h0]
    show Value.int _ = Value.int (Int32.ofInt _)
    rw [jof_toInt]
    rfl) hd k) h
theorem j_callVs {y2 : MethodName} {cc2 : ByteArray} {nL2 : Nat} {rT2 : Option FieldType} {d2 n idx : Nat} {o2 : Option (Int × jSt)} {k : Int → jSt → Option (Int × jSt)} {b : Int} {As : jSk} (hb : b = ((G.2.2.2.2.2.1 : Nat) : Int)) (hCal : jCal y2 cc2 nL2 rT2 n) (hC : CT G y2 cc2 nL2 rT2 d2 (((2, b) :: As).map jval) S o2) (hw1 : Cond.methodLink y.cls idx y2 ∈ lw_g) (hw2 : Cond.instanceMethod y2 ∈ lw_g) (hw3 : Cond.selects "java/lang/String" y2 y2 ∈ lw_g) (hn : As.length = n) (hst : jwords st ≤ 8) (hdd : d2 + 1 ≤ d) (hd : decode cc pc = .ok (.invokevirtual idx, 3))
    (kk : ∀ (r2 : Int) (S2 : jSt), jrr rT2 r2 → J G y cc nL rT d S0 (pc + 3) lv (jpush rT2 r2 st) S2 (k r2 S2)) : J G y cc nL rT d S0 pc lv (As.reverse ++ (2, b) :: st) S (fcall o2 k) := by
  refine j_core hC (fun {p e R s m args below meth c0 H locs cells slots mc ms ls Qc} ok hR hls hf hl h1 h2 hM => ?_) kk
  have hcb : CallB R s args y.cls idx y2 cc2 nL2 rT2 (Cond.code y2 cc2 nL2 rT2 :: lw_g) (jrm d2 mc ms) mc ms n := callB_of n ok.2.2.2.2.1 (jgoodIn hCal.1) rfl rfl rfl (ok.2.2.2.2.1 _ hCal.2.1) (ok.2.2.2.2.1 _ hw1) hCal.2.2.1 ⟨by show d2 + 1 ≤ R.frames; omega, by show 8 + (nL2 + 11) + 64 * d2 ≤ R.locals; have := hCal.2.2.2; omega⟩
  have hrc : ∃ cell : Cell, H[b.toNat]? = some cell ∧ cell.vm.isStatics = false ∧ s.vm.findClass "java/lang/String" = some cell.cls := by
    obtain ⟨cell, q1, q2, q3, q4⟩ := ((jok_S ok).1 0 (by decide)).1
    refine ⟨cell, ?_, q2, q3⟩
    have hlt : ¬ G.2.1 ≤ G.2.2.2.2.2.1 := q4
    subst hb
    rw [show ((G.2.2.2.2.2.1 : Nat) : Int).toNat = G.2.2.2.2.2.1 from Int.toNat_natCast _, hR.2.2.1 _ (by omega), ← ok.2.2.2.2.2.2.2.2.2.2 _ (by omega)]
    exact q1
  exact va_runV (As := As.map jval) (rest := st.map jval) (b := b.toNat) ⟨ok.1, ok.2.1, ok.2.2.1, ok.2.2.2.1, ok.2.2.2.2.1⟩ hM ⟨hcb, ok.2.2.2.2.1 _ hw2, ok.2.2.2.2.1 _ hw3⟩ ⟨jblind, hrc, fun U hU hW => ⟨rfl, by rw [hU]; exact hR, jK_warm hW ok.2.2.2.2.2.1⟩⟩ rfl (by rw [List.length_map]; exact hn) hls (by show (As.reverse ++ (2, b) :: st).map jval = _; rw [List.map_append, List.map_reverse]; rfl) (lv_room (by rw [jcats]; exact hst)) hd ⟨h1, h2⟩
theorem j_eqF {a : Int} {off : Int} {tgt : Nat} (ha : R32 a) (hn : ¬ a = 0) (hd : decode cc pc = .ok (.ifCond .eq off, 3)) (ht : (pc : Int) + off = (tgt : Int)) (h : J G y cc nL rT d S0 (pc + 3) lv st S o) : J G y cc nL rT d S0 pc lv ((0, a) :: st) S o := by
  have q := j_if_eq (o1 := none) (o2 := o) (tgt := tgt) ha hd ht (fun z => absurd z hn) (fun _ => h)
  rwa [if_neg hn] at q
theorem j_neF {a : Int} {off : Int} {tgt : Nat} (ha : R32 a) (hn : a = 0) (hd : decode cc pc = .ok (.ifCond .ne off, 3)) (ht : (pc : Int) + off = (tgt : Int)) (h : J G y cc nL rT d S0 (pc + 3) lv st S o) : J G y cc nL rT d S0 pc lv ((0, a) :: st) S o := by
  have q := j_if_ne (o1 := none) (o2 := o) (tgt := tgt) ha hd ht (fun z => absurd hn z) (fun _ => h)
  rwa [if_pos hn] at q
theorem j_ltF {a : Int} {off : Int} {tgt : Nat} (ha : R32 a) (hn : ¬ a < 0) (hd : decode cc pc = .ok (.ifCond .lt off, 3)) (ht : (pc : Int) + off = (tgt : Int)) (h : J G y cc nL rT d S0 (pc + 3) lv st S o) : J G y cc nL rT d S0 pc lv ((0, a) :: st) S o := by
  have q := j_if_lt (o1 := none) (o2 := o) (tgt := tgt) ha hd ht (fun z => absurd z hn) (fun _ => h)
  rwa [if_neg hn] at q
theorem j_icltT {a b : Int} {off : Int} {tgt : Nat} (ha : R32 a) (hb : R32 b) (hn : a < b) (hd : decode cc pc = .ok (.if_icmp .lt off, 3)) (ht : (pc : Int) + off = (tgt : Int)) (h : J G y cc nL rT d S0 tgt lv st S o) : J G y cc nL rT d S0 pc lv ((0, b) :: (0, a) :: st) S o := by
  have q := j_icmp_lt (o1 := o) (o2 := none) (tgt := tgt) ha hb hd ht (fun _ => h) (fun z => absurd hn z)
  rwa [if_pos hn] at q
theorem j_sld {a i : Int} {f : Int → Option (Int × jSt)} (ha : a = ((G.2.2.2.2.2.2.2.1 : Nat) : Int)) (hi : R32 i) (hd : decode cc pc = .ok (.iaload, 1)) (h : ∀ z : Int, R32 z → J G y cc nL rT d S0 (pc + 1) lv ((0, z) :: st) S (f z)) : J G y cc nL rT d S0 pc lv ((0, i) :: (2, a) :: st) S (fsld G.2.2.2.2.2.2.2.2.1 G.2.2.2.2.2.2.2.2.2 i f) := by
  subst ha
  unfold fsld
  refine j_guard fun hq => ?_
  refine j_lo (st' := (0, (G.2.2.2.2.2.2.2.2.2 i.toNat).toInt) :: st) (fun ok hS k => ?_) (h _ (R32_toInt _))
  have hX := ok.2.2.2.2.2.1.2.2.2.2.2.2
  have hlt : ¬ jA G G.2.2.2.2.2.2.2.1 := by
    show ¬ G.2.1 ≤ _
    have := hX.2
    omega
  refine va_sld (A := jA G) (xs := G.2.2.2.2.2.2.2.2.2) ok.1 ok.2.1 (hX.1.kept (ok.2.2.2.2.2.2.2.2.2.2 _ hX.2)) (Nat.lt_of_lt_of_le hX.2 ok.2.2.2.2.2.2.2.2.2.1) hlt hS (jin_of hi hq.1 hq.2) hd ?_
  rw [jclamp_of hi hq.1]
  have e : Value.int (G.2.2.2.2.2.2.2.2.2 i.toNat) = jval (0, (G.2.2.2.2.2.2.2.2.2 i.toNat).toInt) := by
    show _ = Value.int (Int32.ofInt _)
    rw [jof_toInt]
  rw [e]
  exact k
theorem j_slen {a : Int} {f : Int → Option (Int × jSt)} (ha : a = ((G.2.2.2.2.2.2.2.1 : Nat) : Int)) (hd : decode cc pc = .ok (.arraylength, 1)) (h : ∀ z : Int, R32 z → J G y cc nL rT d S0 (pc + 1) lv ((0, z) :: st) S (f z)) : J G y cc nL rT d S0 pc lv ((2, a) :: st) S (fslen G.2.2.2.2.2.2.2.2.1 f) := by
  subst ha
  unfold fslen
  refine j_guard fun hq => ?_
  refine j_lo (st' := (0, ((G.2.2.2.2.2.2.2.2.1 : Nat) : Int)) :: st) (fun ok hS k => ?_) (h _ (by unfold R32; omega))
  have hX := ok.2.2.2.2.2.1.2.2.2.2.2.2
  have hlt : ¬ jA G G.2.2.2.2.2.2.2.1 := by
    show ¬ G.2.1 ≤ _
    have := hX.2
    omega
  refine va_slen (A := jA G) (xs := G.2.2.2.2.2.2.2.2.2) ok.1 ok.2.1 (hX.1.kept (ok.2.2.2.2.2.2.2.2.2.2 _ hX.2)) (Nat.lt_of_lt_of_le hX.2 ok.2.2.2.2.2.2.2.2.2.1) hlt hS hd ?_
  have e : Value.int (Int32.ofNat G.2.2.2.2.2.2.2.2.1) = jval (0, ((G.2.2.2.2.2.2.2.2.1 : Nat) : Int)) := by
    show _ = Value.int (Int32.ofInt _)
    rw [Int32.ofInt_eq_ofNat]
  rw [e]
  exact k
end JZ
