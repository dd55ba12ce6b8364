-- calls, returns
def fcall (o2 : Option (Int × jSt)) (k : Int → jSt → Option (Int × jSt)) : Option (Int × jSt) := match o2 with
  | none => none
  | some q => k q.1 q.2
def fcallv (S : jSt) (b : Int) (ci : Nat) (o2 : Option (Int × jSt)) (k : Int → jSt → Option (Int × jSt)) : Option (Int × jSt) := if jty S b = (0, ci) then fcall o2 k else none
def jpush (rT : Option FieldType) (r : Int) (st : jSk) : jSk := match rT with
  | none => st
  | some t => (jtag t, r) :: st
theorem jpush_map (rT : Option FieldType) (r : Int) (st : jSk) : (jov rT r).toList ++ st.map jval = (jpush rT r st).map jval := by
  cases rT <;> rfl
theorem jcats : ∀ st : jSk, ((st.map jval).map fun v => v.category).sum = jwords st
  | [] => rfl
  | v :: vs => by
    have ih := jcats vs
    rw [List.map_cons, List.map_cons, List.sum_cons, ih, jval_cat]
    rfl
theorem jgoodIn {w : Cond} (h : w ∈ lw_g) : GoodIn lw_g (w :: lw_g) := fun x hx => by
  rcases List.mem_cons.mp hx with rfl | hx
  · exact ⟨h, good_of_word (lw_g_good h)⟩
  · exact ⟨hx, good_of_word (lw_g_good hx)⟩
theorem jblind {G : jG} {S : jSt} {av : List Value} : FrameBlind (va_Pc av (fun U => jRep G S U.heap ∧ jK G U)) := fun a U g mk q => ⟨q.1, q.2.1, jK_calling q.2.2⟩
section JC
variable {G : jG} {y : MethodName} {cc : ByteArray} {nL : Nat} {rT : Option FieldType} {d : Nat} {S0 S : jSt} {pc : Nat} {lv : jLv} {st : jSk} {o : Option (Int × jSt)}
variable {y2 : MethodName} {cc2 : ByteArray} {nL2 : Nat} {rT2 : Option FieldType} {d2 n idx : Nat} {o2 : Option (Int × jSt)} {k : Int → jSt → Option (Int × jSt)}
theorem j_core {av stA : jSk} (hC : CT G y2 cc2 nL2 rT2 d2 (av.map jval) S o2)
    (hrun : ∀ {p : Program} {e : Env} {R : Room} {s : State} {m : MethodId} {args : Array Value} {below : List Frame} {meth : Method} {c0 : Code} {H : Heap} {locs : List Loc} {cells slots mc ms : Nat} {ls : Array Slot} {Qc : Array Value → State → Outcome → State → Prop}, jok G y cc nL rT p s m args meth c0 → jRep G S H → ls.size = nL → d ≤ R.frames → 64 * d ≤ R.locals → cells + mc ≤ R.cells → slots + ms ≤ R.slots →
      Met G.1 y2 (Cond.code y2 cc2 nL2 rT2 :: lw_g) (jrm d2 mc ms) (va_Pc (av.map jval) (fun U => jRep G S U.heap ∧ jK G U)) Qc mc ms (jA G) → va_Run p G.1 e R s m args below meth c0 H locs cells slots mc ms (F0 m pc ls (stA.map jval)) (st.map jval) (Qc (av.map jval).toArray) (jA G))
    (kk : ∀ (r2 : Int) (S2 : jSt), jrr rT2 r2 → J G y cc nL rT d S0 (pc + 3) lv (jpush rT2 r2 st) S2 (k r2 S2)) : J G y cc nL rT d S0 pc lv stA S (fcall o2 k) := by
  intro hwf r Se ho
  cases ho2 : o2 with
  | none => rw [ho2] at ho; cases ho
  | some q =>
    obtain ⟨r2, S2⟩ := q
    rw [ho2] at ho
    obtain ⟨⟨m1, m2, hr2, hwf2⟩, hM⟩ := hC hwf r2 S2 ho2
    obtain ⟨⟨n1, n2, n3⟩, h3⟩ := kk r2 S2 hr2 hwf2 r Se ho
    refine ⟨⟨Nat.le_trans m1 n1, Nat.le_trans m2 n2, n3⟩, fun p e R s m args below meth c H locs ls ok a1 a2 a3 a4 a5 a6 a7 a8 a9 a10 => ?_⟩
    have hr := hrun (e := e) (below := below) (locs := locs) (cells := S.1 - S0.1) (slots := S.2.1 - S0.2.1) ok a8 a10.1 a4 a5 (by omega) (by omega) hM
    intro T hT X
    obtain ⟨v, st0, t, T', L, e0, X', hL, e1, e2, ⟨hv, hR2, hz, hk⟩, stp⟩ := hr T hT X
    cases hv
    rw [e0] at hz hk
    have c1 : S.1 - S0.1 + (S2.1 - S.1) = S2.1 - S0.1 := by omega
    have c2 : S.2.1 - S0.2.1 + (S2.2.1 - S.2.1) = S2.2.1 - S0.2.1 := by omega
    rw [c1, c2] at X'
    obtain ⟨t2, b1, b2⟩ := h3 p e R s m args below meth c T'.heap (locs ++ L) ls ok a1 (by omega) (by omega) a4 a5 a6 a7 (by rw [e1]; exact hR2)
      ⟨Nat.le_trans a9.1 (by rw [e1]; exact hz), fun q g1 g2 => by rw [e1, hk q (Nat.lt_of_lt_of_le g1 a9.1) g2]; exact a9.2.1 q g1 g2, fun q hq => by
        rcases List.mem_append.mp hq with h | h
        · exact a9.2.2 q h
        · exact hL q h⟩ a10 T' rfl X'
    refine ⟨t2, stp t2 ?_, b2⟩
    rw [jpush_map]
    exact b1
theorem j_callV {ci : Nat} {C : String} {T : u_T} {N : Nat} {b : Int} {As : jSk} (hCal : jCal y2 cc2 nL2 rT2 n) (hC : CT G y2 cc2 nL2 rT2 d2 (((2, b) :: As).map jval) S o2) (hc : vwCl[ci]? = some (C, T, N)) (hw1 : Cond.methodLink y.cls idx y2 ∈ lw_g) (hw2 : Cond.instanceMethod y2 ∈ lw_g) (hw3 : Cond.selects C y2 y2 ∈ lw_g) (hn : As.length = n) (hst : jwords st ≤ 8) (hdd : d2 + 1 ≤ d) (hd : decode cc pc = .ok (.invokevirtual idx, 3))
    (kk : ∀ (r2 : Int) (S2 : jSt), jrr rT2 r2 → J G y cc nL rT d S0 (pc + 3) lv (jpush rT2 r2 st) S2 (k r2 S2)) : J G y cc nL rT d S0 pc lv (As.reverse ++ (2, b) :: st) S (fcallv S b ci o2 k) := by
  unfold fcallv
  refine j_guard fun hty => ?_
  refine j_core hC (fun {p e R s m args below meth c0 H locs cells slots mc ms ls Qc} ok hR hls hf hl h1 h2 hM => ?_) kk
  have hcb : CallB R s args y.cls idx y2 cc2 nL2 rT2 (Cond.code y2 cc2 nL2 rT2 :: lw_g) (jrm d2 mc ms) mc ms n := callB_of n ok.2.2.2.2.1 (jgoodIn hCal.1) rfl rfl rfl (ok.2.2.2.2.1 _ hCal.2.1) (ok.2.2.2.2.1 _ hw1) hCal.2.2.1 ⟨by show d2 + 1 ≤ R.frames; omega, by show 8 + (nL2 + 11) + 64 * d2 ≤ R.locals; have := hCal.2.2.2; omega⟩
  exact va_runV (As := As.map jval) (rest := st.map jval) (b := b.toNat) ⟨ok.1, ok.2.1, ok.2.2.1, ok.2.2.2.1, ok.2.2.2.2.1⟩ hM ⟨hcb, ok.2.2.2.2.1 _ hw2, ok.2.2.2.2.1 _ hw3⟩ ⟨jblind, va_recv ok.2.2.2.2.2.1.1 hR.2.2.2.1 hc (hR.get hty (Nat.zero_le _)), fun U hU hW => ⟨rfl, by rw [hU]; exact hR, jK_warm hW ok.2.2.2.2.2.1⟩⟩ rfl (by rw [List.length_map]; exact hn) hls (by show (As.reverse ++ (2, b) :: st).map jval = _; rw [List.map_append, List.map_reverse]; rfl) (lv_room (by rw [jcats]; exact hst)) hd ⟨h1, h2⟩
theorem j_callS {As : jSk} (hCal : jCal y2 cc2 nL2 rT2 n) (hC : CT G y2 cc2 nL2 rT2 d2 (As.map jval) S o2) (hw1 : Cond.methodLink y.cls idx y2 ∈ lw_g) (hw2 : Cond.static y2 ∈ lw_g) (hn : As.length = n) (hst : jwords st ≤ 8) (hdd : d2 + 1 ≤ d) (hd : decode cc pc = .ok (.invokestatic idx, 3))
    (kk : ∀ (r2 : Int) (S2 : jSt), jrr rT2 r2 → J G y cc nL rT d S0 (pc + 3) lv (jpush rT2 r2 st) S2 (k r2 S2)) : J G y cc nL rT d S0 pc lv (As.reverse ++ st) S (fcall o2 k) := by
  refine j_core hC (fun {p e R s m args below meth c0 H locs cells slots mc ms ls Qc} ok hR hls hf hl h1 h2 hM => ?_) kk
  have hcb : CallB R s args y.cls idx y2 cc2 nL2 rT2 (Cond.code y2 cc2 nL2 rT2 :: lw_g) (jrm d2 mc ms) mc ms n := callB_of n ok.2.2.2.2.1 (jgoodIn hCal.1) rfl rfl rfl (ok.2.2.2.2.1 _ hCal.2.1) (ok.2.2.2.2.1 _ hw1) hCal.2.2.1 ⟨by show d2 + 1 ≤ R.frames; omega, by show 8 + (nL2 + 11) + 64 * d2 ≤ R.locals; have := hCal.2.2.2; omega⟩
  exact va_runS (As := As.map jval) (rest := st.map jval) ⟨ok.1, ok.2.1, ok.2.2.1, ok.2.2.2.1, ok.2.2.2.2.1⟩ hM ⟨hcb, ok.2.2.2.2.1 _ hw2⟩ ⟨jblind, fun U hU hW => ⟨rfl, by rw [hU]; exact hR, jK_warm hW ok.2.2.2.2.2.1⟩⟩ rfl (by rw [List.length_map]; exact hn) hls (by show (As.reverse ++ st).map jval = _; rw [List.map_append, List.map_reverse]) (lv_room (by rw [jcats]; exact hst)) hd ⟨h1, h2⟩
theorem j_callI {b : Int} {As : jSk} (hCal : jCal y2 cc2 nL2 none n) (hC : CT G y2 cc2 nL2 none d2 (((2, b) :: As).map jval) S o2) (hw1 : Cond.methodLink y.cls idx y2 ∈ lw_g) (hw2 : Cond.instanceMethod y2 ∈ lw_g) (hy2 : y2.name = "<init>") (hn : As.length = n) (hst : jwords st ≤ 8) (hdd : d2 + 1 ≤ d) (hd : decode cc pc = .ok (.invokespecial idx, 3))
    (kk : ∀ (r2 : Int) (S2 : jSt), J G y cc nL rT d S0 (pc + 3) lv st S2 (k r2 S2)) : J G y cc nL rT d S0 pc lv (As.reverse ++ (2, b) :: st) S (fcall o2 k) := by
  refine j_core hC (fun {p e R s m args below meth c0 H locs cells slots mc ms ls Qc} ok hR hls hf hl h1 h2 hM => ?_) (fun r2 S2 _ => kk r2 S2)
  have hcb : CallB R s args y.cls idx y2 cc2 nL2 none (Cond.code y2 cc2 nL2 none :: lw_g) (jrm d2 mc ms) mc ms n := callB_of n ok.2.2.2.2.1 (jgoodIn hCal.1) rfl rfl rfl (ok.2.2.2.2.1 _ hCal.2.1) (ok.2.2.2.2.1 _ hw1) hCal.2.2.1 ⟨by show d2 + 1 ≤ R.frames; omega, by show 8 + (nL2 + 11) + 64 * d2 ≤ R.locals; have := hCal.2.2.2; omega⟩
  exact va_runI (As := As.map jval) (rest := st.map jval) (b := b.toNat) ⟨ok.1, ok.2.1, ok.2.2.1, ok.2.2.2.1, ok.2.2.2.2.1⟩ hM ⟨hcb, hy2, ok.2.2.2.2.1 _ hw2⟩ ⟨jblind, fun U hU hW => ⟨rfl, by rw [hU]; exact hR, jK_warm hW ok.2.2.2.2.2.1⟩⟩ rfl (by rw [List.length_map]; exact hn) hls (by show (As.reverse ++ (2, b) :: st).map jval = _; rw [List.map_append, List.map_reverse]; rfl) (lv_room (by rw [jcats]; exact hst)) hd ⟨h1, h2⟩
theorem j_callSN {host : String} {As : jSk} (hCal : jCal y2 cc2 nL2 rT2 n) (hC : CT G y2 cc2 nL2 rT2 d2 (As.map jval) S o2) (hw1 : (y.cls, idx, y2, host) ∈ jNm) (hw2 : Cond.static y2 ∈ lw_g) (hn : As.length = n) (hst : jwords st ≤ 8) (hdd : d2 + 1 ≤ d) (hd : decode cc pc = .ok (.invokestatic idx, 3))
    (kk : ∀ (r2 : Int) (S2 : jSt), jrr rT2 r2 → J G y cc nL rT d S0 (pc + 3) lv (jpush rT2 r2 st) S2 (k r2 S2)) : J G y cc nL rT d S0 pc lv (As.reverse ++ st) S (fcall o2 k) := by
  refine j_core hC (fun {p e R s m args below meth c0 H locs cells slots mc ms ls Qc} ok hR hls hf hl h1 h2 hM => ?_) kk
  have hcb : va_CN R s args y.cls idx y2 host cc2 nL2 rT2 (Cond.code y2 cc2 nL2 rT2 :: lw_g) (jrm d2 mc ms) mc ms n := va_cnB n ok.2.2.2.2.1 (jgoodIn hCal.1) rfl rfl rfl (ok.2.2.2.2.2.1.2.1.1 _ hw1) (ok.2.2.2.2.1 _ hCal.2.1) hCal.2.2.1 ⟨by show d2 + 1 ≤ R.frames; omega, by show 8 + (nL2 + 11) + 64 * d2 ≤ R.locals; have := hCal.2.2.2; omega⟩
  exact va_runSN (As := As.map jval) (rest := st.map jval) ⟨ok.1, ok.2.1, ok.2.2.1, ok.2.2.2.1, ok.2.2.2.2.1⟩ hM ⟨hcb, ok.2.2.2.2.1 _ hw2, trivial⟩ ⟨jblind, fun U hU hW => ⟨rfl, by rw [hU]; exact hR, jK_warm hW ok.2.2.2.2.2.1⟩⟩ rfl (by rw [List.length_map]; exact hn) hls (by show (As.reverse ++ st).map jval = _; rw [List.map_append, List.map_reverse]) (lv_room (by rw [jcats]; exact hst)) hd ⟨h1, h2⟩
theorem j_callIN {host : String} {b : Int} {As : jSk} (hCal : jCal y2 cc2 nL2 none n) (hC : CT G y2 cc2 nL2 none d2 (((2, b) :: As).map jval) S o2) (hw1 : (y.cls, idx, y2, host) ∈ jNm) (hw2 : Cond.instanceMethod y2 ∈ lw_g) (hy2 : y2.name = "<init>") (hn : As.length = n) (hst : jwords st ≤ 8) (hdd : d2 + 1 ≤ d) (hd : decode cc pc = .ok (.invokespecial idx, 3))
    (kk : ∀ (r2 : Int) (S2 : jSt), J G y cc nL rT d S0 (pc + 3) lv st S2 (k r2 S2)) : J G y cc nL rT d S0 pc lv (As.reverse ++ (2, b) :: st) S (fcall o2 k) := by
  refine j_core hC (fun {p e R s m args below meth c0 H locs cells slots mc ms ls Qc} ok hR hls hf hl h1 h2 hM => ?_) (fun r2 S2 _ => kk r2 S2)
  have hcb : va_CN R s args y.cls idx y2 host cc2 nL2 none (Cond.code y2 cc2 nL2 none :: lw_g) (jrm d2 mc ms) mc ms n := va_cnB n ok.2.2.2.2.1 (jgoodIn hCal.1) rfl rfl rfl (ok.2.2.2.2.2.1.2.1.1 _ hw1) (ok.2.2.2.2.1 _ hCal.2.1) hCal.2.2.1 ⟨by show d2 + 1 ≤ R.frames; omega, by show 8 + (nL2 + 11) + 64 * d2 ≤ R.locals; have := hCal.2.2.2; omega⟩
  exact va_runIN (As := As.map jval) (rest := st.map jval) (b := b.toNat) ⟨ok.1, ok.2.1, ok.2.2.1, ok.2.2.2.1, ok.2.2.2.2.1⟩ hM ⟨hcb, hy2, ok.2.2.2.2.1 _ hw2⟩ ⟨jblind, fun U hU hW => ⟨rfl, by rw [hU]; exact hR, jK_warm hW ok.2.2.2.2.2.1⟩⟩ rfl (by rw [List.length_map]; exact hn) hls (by show (As.reverse ++ (2, b) :: st).map jval = _; rw [List.map_append, List.map_reverse]; rfl) (lv_room (by rw [jcats]; exact hst)) hd ⟨h1, h2⟩
-- returns
theorem j_rt {r : Int} {stv : jSk} (hrr : jrr rT r) (hw : ∀ {p : Program} {e : Env} {R : Room} {s : State} {m : MethodId} {args : Array Value} {below : List Frame} {meth : Method} {c0 : Code} {H : Heap} {locs : List Loc} {cells slots : Nat} {ls : Array Slot}, jok G y cc nL rT p s m args meth c0 → (∀ t : State, t.heap = H → s.WarmedH t.vm → jQ G rT r S args s (.returned (jov rT r)) t) → (∀ q ∈ locs, jA G q.base) → W p G.1 e R s m args below meth c0 H locs cells slots (MQ below (jQ G rT r S) args s cells slots (jA G)) (F0 m pc ls (stv.map jval))) : J G y cc nL rT d S0 pc lv stv S (some (r, S)) := by
  intro hwf r' Se ho
  cases ho
  exact ⟨⟨Nat.le_refl _, Nat.le_refl _, hrr, hwf⟩, fun p e R s m args below meth c H locs ls ok a1 a2 a3 a4 a5 a6 a7 a8 a9 a10 => hw ok (fun t ht _ => ⟨rfl, by rw [ht]; exact a8, a9.F ht⟩) a9.2.2⟩
end JC
section JT
variable {G : jG} {y : MethodName} {cc : ByteArray} {nL : Nat} {d : Nat} {S0 S : jSt} {pc : Nat} {lv : jLv}
theorem j_ireturn {z : Int} (hz : R32 z) (hd : decode cc pc = .ok (.ireturn, 1)) : J G y cc nL (some .int) d S0 pc lv [(0, z)] S (some (z, S)) := j_rt (rT := some .int) hz (fun ok hq hf => W.iret ok.1 ok.2.1 ok.2.2.2.2.2.2.2.1 hq hf hd ok.2.2.2.2.2.2.1)
theorem jnar_z {z : Int} (hz : z = 0 ∨ z = 1) : narrow .boolean (.int (Int32.ofInt z)) = .int (Int32.ofInt z) := by
  rcases hz with rfl | rfl <;> rfl
theorem j_zreturn {z : Int} (hz : z = 0 ∨ z = 1) (hd : decode cc pc = .ok (.ireturn, 1)) : J G y cc nL (some .boolean) d S0 pc lv [(0, z)] S (some (z, S)) := j_rt (rT := some .boolean) hz (fun ok hq hf => W.zret (ty := .boolean) ok.1 ok.2.1 ok.2.2.2.2.2.2.2.1 (jnar_z hz) hq hf hd ok.2.2.2.2.2.2.1)
theorem j_lreturn {z : Int} (hz : R64 z) (hd : decode cc pc = .ok (.lreturn, 1)) : J G y cc nL (some .long) d S0 pc lv [(1, z)] S (some (z, S)) := j_rt (rT := some .long) hz (fun ok hq hf => W.lret ok.1 ok.2.1 ok.2.2.2.2.2.2.2.1 hq hf hd ok.2.2.2.2.2.2.1)
theorem j_return (hd : decode cc pc = .ok (.return_, 1)) : J G y cc nL none d S0 pc lv [] S (some (0, S)) := j_rt (rT := none) trivial (fun ok hq hf => W.vret ok.1 ok.2.1 ok.2.2.2.2.2.2.2.1 hq hf hd ok.2.2.2.2.2.2.1)
theorem j_areturn {z : Int} {C : String} (hd : decode cc pc = .ok (.areturn, 1)) : J G y cc nL (some (.object C)) d S0 pc lv [(3, z)] S (some (z, S)) := j_rt (rT := some (.object C)) trivial (fun ok hq hf => W.aret (rt := .object C) ok.1 ok.2.1 ok.2.2.2.2.2.2.2.1 (Or.inl ⟨_, rfl⟩) (by
  by_cases h : z < 0
  · exact Or.inl (jval3n h)
  · exact Or.inr ⟨z.toNat, jval3r h⟩) hq hf hd ok.2.2.2.2.2.2.1)
end JT
