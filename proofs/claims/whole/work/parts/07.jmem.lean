section JS
variable {p : Program} {l : Launch} {e : Env} {R : Room} {s : State} {m : MethodId} {args : Array Value} {below : List Frame} {meth : Method} {c : Code} {H : Heap} {locs : List Loc} {cells slots : Nat} {Q : State → Prop} {g : JFrame}
/-- the machine's own count of new cells bounds the heap -/
theorem W_size (h : H.size ≤ s.heap.size + cells → W p l e R s m args below meth c H locs cells slots Q g) : W p l e R s m args below meth c H locs cells slots Q g := by
  intro T hT X
  refine h ?_ T hT X
  have h1 : T.heap.size ≤ s.heap.size + cells := X.same.2.2.1
  rw [hT] at h1
  exact h1
end JS
/-- what a world says of the heap's size -/
theorem jsize_ge {G : jG} {S : jSt} {H H0 : Heap} {f : Nat → va_E} {locs : List Loc} (hB : G.2.1 ≤ H0.size) (hS : va_S (jA G) H0 H locs) (hP : va_P G.2.2.1 vwCl (va_pl (List.range' G.2.1 (S.1 - G.2.1)) f) H) : S.1 ≤ H.size := by
  rcases Nat.lt_or_ge G.2.1 S.1 with h | h
  · have h1 := (hP _ _ (jpl_get (B := G.2.1) (n := S.1) (a := S.1 - 1) (f := f) (by omega) (by omega))).lt
    have h2 : S.1 - 1 < H.size := h1
    omega
  · have := hS.1
    omega
theorem jbelow {G : jG} {H H1 H0 : Heap} {l1 l2 : List Loc} (hB : G.2.1 ≤ H0.size) (h1 : va_S (jA G) H0 H l1) (h2 : va_S (jA G) H0 H1 l2) : ∀ q : Nat, q < G.2.1 → H1[q]? = H[q]? := by
  intro q hq
  have n : ¬ jA G q := by show ¬ G.2.1 ≤ q; omega
  rw [h1.2.1 q (by omega) n, h2.2.1 q (by omega) n]
section JM
variable {G : jG} {y : MethodName} {cc : ByteArray} {nL : Nat} {rT : Option FieldType} {d : Nat} {S0 S : jSt} {pc : Nat} {lv : jLv} {st : jSk} {o : Option (Int × jSt)}
-- branches
theorem j_br {c : Prop} [Decidable c] {tgt nxt : Nat} {st' : jSk} {o1 o2 : Option (Int × jSt)} (hw : ∀ {p : Program} {l : Launch} {e : Env} {R : Room} {s : State} {m : MethodId} {args : Array Value} {below : List Frame} {meth : Method} {c0 : Code} {H : Heap} {locs : List Loc} {cells slots : Nat} {Q : State → Prop} {ls : Array Slot}, p.tables.exec = Jvm.exec → c0.code = cc → (c → W p l e R s m args below meth c0 H locs cells slots Q (F0 m tgt ls (st'.map jval))) → (¬ c → W p l e R s m args below meth c0 H locs cells slots Q (F0 m nxt ls (st'.map jval))) → W p l e R s m args below meth c0 H locs cells slots Q (F0 m pc ls (st.map jval)))
    (kt : c → J G y cc nL rT d S0 tgt lv st' S o1) (kf : ¬ c → J G y cc nL rT d S0 nxt lv st' S o2) : J G y cc nL rT d S0 pc lv st S (if c then o1 else o2) := by
  intro hwf r Se ho
  by_cases hc : c
  · rw [if_pos hc] at ho
    obtain ⟨h1, h3⟩ := kt hc hwf r Se ho
    exact ⟨h1, fun p e R s m args below meth c H locs ls ok a1 a2 a3 a4 a5 a6 a7 a8 a9 a10 => hw ok.1 ok.2.1 (fun _ => h3 p e R s m args below meth c H locs ls ok a1 a2 a3 a4 a5 a6 a7 a8 a9 a10) (fun q => absurd hc q)⟩
  · rw [if_neg hc] at ho
    obtain ⟨h1, h3⟩ := kf hc hwf r Se ho
    exact ⟨h1, fun p e R s m args below meth c H locs ls ok a1 a2 a3 a4 a5 a6 a7 a8 a9 a10 => hw ok.1 ok.2.1 (fun q => absurd q hc) (fun _ => h3 p e R s m args below meth c H locs ls ok a1 a2 a3 a4 a5 a6 a7 a8 a9 a10)⟩
theorem j_icmp_eq {a b : Int} {off : Int} {tgt : Nat} {o1 o2 : Option (Int × jSt)} (ha : R32 a) (hb : R32 b) (hd : decode cc pc = .ok (.if_icmp .eq off, 3)) (ht : (pc : Int) + off = (tgt : Int)) (kt : a = b → J G y cc nL rT d S0 tgt lv st S o1) (kf : ¬ a = b → J G y cc nL rT d S0 (pc + 3) lv st S o2) : J G y cc nL rT d S0 pc lv ((0, b) :: (0, a) :: st) S (if a = b then o1 else o2) := j_br (fun hx hc kt kf => lv_icmp_eq hx hc hd ht (fun h => kt ((jeq_of ha hb).mp h)) (fun h => kf (fun q => h ((jeq_of ha hb).mpr q)))) kt kf
theorem j_icmp_lt {a b : Int} {off : Int} {tgt : Nat} {o1 o2 : Option (Int × jSt)} (ha : R32 a) (hb : R32 b) (hd : decode cc pc = .ok (.if_icmp .lt off, 3)) (ht : (pc : Int) + off = (tgt : Int)) (kt : a < b → J G y cc nL rT d S0 tgt lv st S o1) (kf : ¬ a < b → J G y cc nL rT d S0 (pc + 3) lv st S o2) : J G y cc nL rT d S0 pc lv ((0, b) :: (0, a) :: st) S (if a < b then o1 else o2) := j_br (fun hx hc kt kf => lv_icmp_lt hx hc hd ht (fun h => kt ((jlt_of ha hb).mp h)) (fun h => kf (fun q => h ((jlt_of ha hb).mpr q)))) kt kf
theorem j_icmp_ge {a b : Int} {off : Int} {tgt : Nat} {o1 o2 : Option (Int × jSt)} (ha : R32 a) (hb : R32 b) (hd : decode cc pc = .ok (.if_icmp .ge off, 3)) (ht : (pc : Int) + off = (tgt : Int)) (kt : b ≤ a → J G y cc nL rT d S0 tgt lv st S o1) (kf : ¬ b ≤ a → J G y cc nL rT d S0 (pc + 3) lv st S o2) : J G y cc nL rT d S0 pc lv ((0, b) :: (0, a) :: st) S (if b ≤ a then o1 else o2) := j_br (fun hx hc kt kf => lv_icmp_ge hx hc hd ht (fun h => kt ((jle_of hb ha).mp h)) (fun h => kf (fun q => h ((jle_of hb ha).mpr q)))) kt kf
theorem j_icmp_gt {a b : Int} {off : Int} {tgt : Nat} {o1 o2 : Option (Int × jSt)} (ha : R32 a) (hb : R32 b) (hd : decode cc pc = .ok (.if_icmp .gt off, 3)) (ht : (pc : Int) + off = (tgt : Int)) (kt : b < a → J G y cc nL rT d S0 tgt lv st S o1) (kf : ¬ b < a → J G y cc nL rT d S0 (pc + 3) lv st S o2) : J G y cc nL rT d S0 pc lv ((0, b) :: (0, a) :: st) S (if b < a then o1 else o2) := j_br (fun hx hc kt kf => lv_icmp_gt hx hc hd ht (fun h => kt ((jlt_of hb ha).mp h)) (fun h => kf (fun q => h ((jlt_of hb ha).mpr q)))) kt kf
theorem j_icmp_le {a b : Int} {off : Int} {tgt : Nat} {o1 o2 : Option (Int × jSt)} (ha : R32 a) (hb : R32 b) (hd : decode cc pc = .ok (.if_icmp .le off, 3)) (ht : (pc : Int) + off = (tgt : Int)) (kt : a ≤ b → J G y cc nL rT d S0 tgt lv st S o1) (kf : ¬ a ≤ b → J G y cc nL rT d S0 (pc + 3) lv st S o2) : J G y cc nL rT d S0 pc lv ((0, b) :: (0, a) :: st) S (if a ≤ b then o1 else o2) := j_br (fun hx hc kt kf => lv_icmp_le hx hc hd ht (fun h => kt ((jle_of ha hb).mp h)) (fun h => kf (fun q => h ((jle_of ha hb).mpr q)))) kt kf
theorem j_icmp_ne {a b : Int} {off : Int} {tgt : Nat} {o1 o2 : Option (Int × jSt)} (ha : R32 a) (hb : R32 b) (hd : decode cc pc = .ok (.if_icmp .ne off, 3)) (ht : (pc : Int) + off = (tgt : Int)) (kt : ¬ a = b → J G y cc nL rT d S0 tgt lv st S o1) (kf : a = b → J G y cc nL rT d S0 (pc + 3) lv st S o2) : J G y cc nL rT d S0 pc lv ((0, b) :: (0, a) :: st) S (if a = b then o2 else o1) := j_br (fun hx hc kt kf => lv_icmp_ne hx hc hd ht (fun h => kf (fun q => h ((jeq_of ha hb).mpr q))) (fun h => kt ((jeq_of ha hb).mp h))) kf kt
theorem j_if_eq {a : Int} {off : Int} {tgt : Nat} {o1 o2 : Option (Int × jSt)} (ha : R32 a) (hd : decode cc pc = .ok (.ifCond .eq off, 3)) (ht : (pc : Int) + off = (tgt : Int)) (kt : a = 0 → J G y cc nL rT d S0 tgt lv st S o1) (kf : ¬ a = 0 → J G y cc nL rT d S0 (pc + 3) lv st S o2) : J G y cc nL rT d S0 pc lv ((0, a) :: st) S (if a = 0 then o1 else o2) := j_br (fun hx hc kt kf => lv_if_eq hx hc hd ht (fun h => kt ((jeq_of0 ha).mp h)) (fun h => kf (fun q => h ((jeq_of0 ha).mpr q)))) kt kf
theorem j_if_lt {a : Int} {off : Int} {tgt : Nat} {o1 o2 : Option (Int × jSt)} (ha : R32 a) (hd : decode cc pc = .ok (.ifCond .lt off, 3)) (ht : (pc : Int) + off = (tgt : Int)) (kt : a < 0 → J G y cc nL rT d S0 tgt lv st S o1) (kf : ¬ a < 0 → J G y cc nL rT d S0 (pc + 3) lv st S o2) : J G y cc nL rT d S0 pc lv ((0, a) :: st) S (if a < 0 then o1 else o2) := j_br (fun hx hc kt kf => lv_if_lt hx hc hd ht (fun h => kt ((jlt_of0 ha).mp h)) (fun h => kf (fun q => h ((jlt_of0 ha).mpr q)))) kt kf
theorem j_if_ge {a : Int} {off : Int} {tgt : Nat} {o1 o2 : Option (Int × jSt)} (ha : R32 a) (hd : decode cc pc = .ok (.ifCond .ge off, 3)) (ht : (pc : Int) + off = (tgt : Int)) (kt : 0 ≤ a → J G y cc nL rT d S0 tgt lv st S o1) (kf : ¬ 0 ≤ a → J G y cc nL rT d S0 (pc + 3) lv st S o2) : J G y cc nL rT d S0 pc lv ((0, a) :: st) S (if 0 ≤ a then o1 else o2) := j_br (fun hx hc kt kf => lv_if_ge hx hc hd ht (fun h => kt ((jge_of0 ha).mp h)) (fun h => kf (fun q => h ((jge_of0 ha).mpr q)))) kt kf
theorem j_if_gt {a : Int} {off : Int} {tgt : Nat} {o1 o2 : Option (Int × jSt)} (ha : R32 a) (hd : decode cc pc = .ok (.ifCond .gt off, 3)) (ht : (pc : Int) + off = (tgt : Int)) (kt : 0 < a → J G y cc nL rT d S0 tgt lv st S o1) (kf : ¬ 0 < a → J G y cc nL rT d S0 (pc + 3) lv st S o2) : J G y cc nL rT d S0 pc lv ((0, a) :: st) S (if 0 < a then o1 else o2) := j_br (fun hx hc kt kf => lv_if_gt hx hc hd ht (fun h => kt ((jgt_of0 ha).mp h)) (fun h => kf (fun q => h ((jgt_of0 ha).mpr q)))) kt kf
theorem j_if_le {a : Int} {off : Int} {tgt : Nat} {o1 o2 : Option (Int × jSt)} (ha : R32 a) (hd : decode cc pc = .ok (.ifCond .le off, 3)) (ht : (pc : Int) + off = (tgt : Int)) (kt : a ≤ 0 → J G y cc nL rT d S0 tgt lv st S o1) (kf : ¬ a ≤ 0 → J G y cc nL rT d S0 (pc + 3) lv st S o2) : J G y cc nL rT d S0 pc lv ((0, a) :: st) S (if a ≤ 0 then o1 else o2) := j_br (fun hx hc kt kf => lv_if_le hx hc hd ht (fun h => kt ((jle_of0 ha).mp h)) (fun h => kf (fun q => h ((jle_of0 ha).mpr q)))) kt kf
theorem j_if_ne {a : Int} {off : Int} {tgt : Nat} {o1 o2 : Option (Int × jSt)} (ha : R32 a) (hd : decode cc pc = .ok (.ifCond .ne off, 3)) (ht : (pc : Int) + off = (tgt : Int)) (kt : ¬ a = 0 → J G y cc nL rT d S0 tgt lv st S o1) (kf : a = 0 → J G y cc nL rT d S0 (pc + 3) lv st S o2) : J G y cc nL rT d S0 pc lv ((0, a) :: st) S (if a = 0 then o2 else o1) := j_br (fun hx hc kt kf => lv_if_ne hx hc hd ht (fun h => kf (fun q => h ((jeq_of0 ha).mpr q))) (fun h => kt ((jeq_of0 ha).mp h))) kf kt
theorem jlt_of64 {a b : Int} (ha : R64 a) (hb : R64 b) : Int64.ofInt a < Int64.ofInt b ↔ a < b := by
  rw [Int64.lt_iff_toInt_lt, jto_of64 ha, jto_of64 hb]
theorem jle_of64 {a b : Int} (ha : R64 a) (hb : R64 b) : Int64.ofInt a ≤ Int64.ofInt b ↔ a ≤ b := by
  rw [Int64.le_iff_toInt_le, jto_of64 ha, jto_of64 hb]
theorem jeq_of64 {a b : Int} (ha : R64 a) (hb : R64 b) : Int64.ofInt a = Int64.ofInt b ↔ a = b := by
  rw [← Int64.toInt_inj, jto_of64 ha, jto_of64 hb]
theorem j_lcmp_eq {a b : Int} {off : Int} {tgt : Nat} {o1 o2 : Option (Int × jSt)} (ha : R64 a) (hb : R64 b) (hd0 : decode cc pc = .ok (.lcmp, 1)) (hd : decode cc (pc + 1) = .ok (.ifCond .eq off, 3)) (ht : ((pc + 1 : Nat) : Int) + off = (tgt : Int)) (kt : a = b → J G y cc nL rT d S0 tgt lv st S o1) (kf : ¬ a = b → J G y cc nL rT d S0 (pc + 4) lv st S o2) : J G y cc nL rT d S0 pc lv ((1, b) :: (1, a) :: st) S (if a = b then o1 else o2) := j_br (fun hx hc kt kf => W.lcmp hx hc hd0 (lv_if_eq hx hc hd ht (fun h => kt ((jeq_of64 ha hb).mp ((lg_cmp_eq _ _).mp h))) (fun h => kf (fun q => h ((lg_cmp_eq _ _).mpr ((jeq_of64 ha hb).mpr q)))))) kt kf
theorem j_lcmp_lt {a b : Int} {off : Int} {tgt : Nat} {o1 o2 : Option (Int × jSt)} (ha : R64 a) (hb : R64 b) (hd0 : decode cc pc = .ok (.lcmp, 1)) (hd : decode cc (pc + 1) = .ok (.ifCond .lt off, 3)) (ht : ((pc + 1 : Nat) : Int) + off = (tgt : Int)) (kt : a < b → J G y cc nL rT d S0 tgt lv st S o1) (kf : ¬ a < b → J G y cc nL rT d S0 (pc + 4) lv st S o2) : J G y cc nL rT d S0 pc lv ((1, b) :: (1, a) :: st) S (if a < b then o1 else o2) := j_br (fun hx hc kt kf => W.lcmp hx hc hd0 (lv_if_lt hx hc hd ht (fun h => kt ((jlt_of64 ha hb).mp ((lg_cmp_lt _ _).mp h))) (fun h => kf (fun q => h ((lg_cmp_lt _ _).mpr ((jlt_of64 ha hb).mpr q)))))) kt kf
theorem j_lcmp_ge {a b : Int} {off : Int} {tgt : Nat} {o1 o2 : Option (Int × jSt)} (ha : R64 a) (hb : R64 b) (hd0 : decode cc pc = .ok (.lcmp, 1)) (hd : decode cc (pc + 1) = .ok (.ifCond .ge off, 3)) (ht : ((pc + 1 : Nat) : Int) + off = (tgt : Int)) (kt : b ≤ a → J G y cc nL rT d S0 tgt lv st S o1) (kf : ¬ b ≤ a → J G y cc nL rT d S0 (pc + 4) lv st S o2) : J G y cc nL rT d S0 pc lv ((1, b) :: (1, a) :: st) S (if b ≤ a then o1 else o2) := j_br (fun hx hc kt kf => W.lcmp hx hc hd0 (lv_if_ge hx hc hd ht (fun h => kt ((jle_of64 hb ha).mp ((lg_cmp_ge _ _).mp h))) (fun h => kf (fun q => h ((lg_cmp_ge _ _).mpr ((jle_of64 hb ha).mpr q)))))) kt kf
theorem j_lcmp_gt {a b : Int} {off : Int} {tgt : Nat} {o1 o2 : Option (Int × jSt)} (ha : R64 a) (hb : R64 b) (hd0 : decode cc pc = .ok (.lcmp, 1)) (hd : decode cc (pc + 1) = .ok (.ifCond .gt off, 3)) (ht : ((pc + 1 : Nat) : Int) + off = (tgt : Int)) (kt : b < a → J G y cc nL rT d S0 tgt lv st S o1) (kf : ¬ b < a → J G y cc nL rT d S0 (pc + 4) lv st S o2) : J G y cc nL rT d S0 pc lv ((1, b) :: (1, a) :: st) S (if b < a then o1 else o2) := j_br (fun hx hc kt kf => W.lcmp hx hc hd0 (lv_if_gt hx hc hd ht (fun h => kt ((jlt_of64 hb ha).mp ((lg_cmp_gt _ _).mp h))) (fun h => kf (fun q => h ((lg_cmp_gt _ _).mpr ((jlt_of64 hb ha).mpr q)))))) kt kf
theorem j_lcmp_le {a b : Int} {off : Int} {tgt : Nat} {o1 o2 : Option (Int × jSt)} (ha : R64 a) (hb : R64 b) (hd0 : decode cc pc = .ok (.lcmp, 1)) (hd : decode cc (pc + 1) = .ok (.ifCond .le off, 3)) (ht : ((pc + 1 : Nat) : Int) + off = (tgt : Int)) (kt : a ≤ b → J G y cc nL rT d S0 tgt lv st S o1) (kf : ¬ a ≤ b → J G y cc nL rT d S0 (pc + 4) lv st S o2) : J G y cc nL rT d S0 pc lv ((1, b) :: (1, a) :: st) S (if a ≤ b then o1 else o2) := j_br (fun hx hc kt kf => W.lcmp hx hc hd0 (lv_if_le hx hc hd ht (fun h => kt ((jle_of64 ha hb).mp ((lg_cmp_le _ _).mp h))) (fun h => kf (fun q => h ((lg_cmp_le _ _).mpr ((jle_of64 ha hb).mpr q)))))) kt kf
theorem j_lcmp_ne {a b : Int} {off : Int} {tgt : Nat} {o1 o2 : Option (Int × jSt)} (ha : R64 a) (hb : R64 b) (hd0 : decode cc pc = .ok (.lcmp, 1)) (hd : decode cc (pc + 1) = .ok (.ifCond .ne off, 3)) (ht : ((pc + 1 : Nat) : Int) + off = (tgt : Int)) (kt : ¬ a = b → J G y cc nL rT d S0 tgt lv st S o1) (kf : a = b → J G y cc nL rT d S0 (pc + 4) lv st S o2) : J G y cc nL rT d S0 pc lv ((1, b) :: (1, a) :: st) S (if a = b then o2 else o1) := j_br (fun hx hc kt kf => W.lcmp hx hc hd0 (lv_if_ne hx hc hd ht (fun h => kf (fun q => h ((lg_cmp_eq _ _).mpr ((jeq_of64 ha hb).mpr q)))) (fun h => kt ((jeq_of64 ha hb).mp ((lg_cmp_eq _ _).mp h))))) kf kt
theorem j_ifnull {a : Int} {off : Int} {tgt : Nat} {o1 o2 : Option (Int × jSt)} (hd : decode cc pc = .ok (.ifnull off, 3)) (ht : (pc : Int) + off = (tgt : Int)) (kt : a < 0 → J G y cc nL rT d S0 tgt lv st S o1) (kf : ¬ a < 0 → J G y cc nL rT d S0 (pc + 3) lv st S o2) : J G y cc nL rT d S0 pc lv ((3, a) :: st) S (if a < 0 then o1 else o2) := j_br (fun hx hc kt kf => by
  rw [List.map_cons]
  by_cases h : a < 0
  · rw [jval3n h]
    exact lv_ifnullN hx hc hd ht (kt h)
  · rw [jval3r h]
    exact lv_ifnull hx hc hd (kf h)) kt kf
theorem j_ifnonnull {a : Int} {off : Int} {tgt : Nat} {o1 o2 : Option (Int × jSt)} (hd : decode cc pc = .ok (.ifnonnull off, 3)) (ht : (pc : Int) + off = (tgt : Int)) (kt : ¬ a < 0 → J G y cc nL rT d S0 tgt lv st S o1) (kf : a < 0 → J G y cc nL rT d S0 (pc + 3) lv st S o2) : J G y cc nL rT d S0 pc lv ((3, a) :: st) S (if a < 0 then o2 else o1) := j_br (fun hx hc kf kt => by
  rw [List.map_cons]
  by_cases h : a < 0
  · rw [jval3n h]
    exact lv_ifnonnullN hx hc hd (kf h)
  · rw [jval3r h]
    exact lv_ifnonnull hx hc hd ht (kt h)) kf kt
-- switches: out of the table, in it at a place, by pairs
theorem j_tableOut {dflt lo hi : Int} {offs : Array Int} {len : Nat} {a : Int} {tgt : Nat} (ha : R32 a) (hd : decode cc pc = .ok (.tableswitch dflt lo hi offs, len)) (hz : a < lo ∨ hi < a) (ht : (pc : Int) + dflt = (tgt : Int)) (h : J G y cc nL rT d S0 tgt lv st S o) : J G y cc nL rT d S0 pc lv ((0, a) :: st) S o := j_lift (fun hx hb _ k => lv_tableOut hx hb hd (by rw [jto_of ha]; exact hz) ht k) h
theorem j_tableIn {dflt lo hi : Int} {offs : Array Int} {len : Nat} {a off : Int} {tgt : Nat} (ha : R32 a) (hd : decode cc pc = .ok (.tableswitch dflt lo hi offs, len)) (h1 : ¬ a < lo) (h2 : ¬ hi < a) (ho : offs[(a - lo).toNat]? = some off) (ht : (pc : Int) + off = (tgt : Int)) (h : J G y cc nL rT d S0 tgt lv st S o) : J G y cc nL rT d S0 pc lv ((0, a) :: st) S o := j_lift (fun hx hb _ k => lv_tableIn hx hb hd (by rw [jto_of ha]; exact h1) (by rw [jto_of ha]; exact h2) (by rw [jto_of ha]; exact ho) ht k) h
theorem j_lookup {dflt : Int} {ps : Array (Int × Int)} {len : Nat} {a off : Int} {tgt : Nat} (ha : R32 a) (hd : decode cc pc = .ok (.lookupswitch dflt ps, len)) (hp : (ps.toList.zip (ps.toList.drop 1)).all (fun (a, next) => a.1 < next.1) = true) (ho : Op.lookupswitch.offset ps.toList dflt a = off) (ht : (pc : Int) + off = (tgt : Int)) (h : J G y cc nL rT d S0 tgt lv st S o) : J G y cc nL rT d S0 pc lv ((0, a) :: st) S o := j_lift (fun hx hb _ k => lv_lookup hx hb hd hp (by rw [jto_of ha]; exact ho) ht k) h
-- stores
theorem j_st {pc' : Nat} {st' : jSk} {lv' : jLv} (hw : ∀ {p : Program} {l : Launch} {e : Env} {R : Room} {s : State} {m : MethodId} {args : Array Value} {below : List Frame} {meth : Method} {c0 : Code} {H : Heap} {locs : List Loc} {cells slots : Nat} {Q : State → Prop} {ls : Array Slot}, p.tables.exec = Jvm.exec → c0.code = cc → lv_has ls nL (jlm lv) → (∀ ls' : Array Slot, lv_has ls' nL (jlm lv') → W p l e R s m args below meth c0 H locs cells slots Q (F0 m pc' ls' (st'.map jval))) → W p l e R s m args below meth c0 H locs cells slots Q (F0 m pc ls (st.map jval)))
    (h : J G y cc nL rT d S0 pc' lv' st' S o) : J G y cc nL rT d S0 pc lv st S o := fun hwf r Se ho =>
  let ⟨h1, h3⟩ := h hwf r Se ho
  ⟨h1, fun p e R s m args below meth c H locs ls ok a1 a2 a3 a4 a5 a6 a7 a8 a9 a10 => hw ok.1 ok.2.1 a10 (fun ls' hl' => h3 p e R s m args below meth c H locs ls' ok a1 a2 a3 a4 a5 a6 a7 a8 a9 hl')⟩
theorem j_istore_n {k : Fin 4} {i : Nat} {z : Int} {lv' : jLv} (hd : decode cc pc = .ok (.istore_n k, 1)) (hi : (k : Nat) = i) (hn : i < nL) (hl : jset i (0, z) lv = lv') (h : J G y cc nL rT d S0 (pc + 1) lv' st S o) : J G y cc nL rT d S0 pc lv ((0, z) :: st) S o := j_st (fun hx hb h9 k => lv_istore_n hx hb hd hi h9 hn (by rw [← hl]; exact jset_lm i (0, z) lv) k) h
theorem j_istore {i : Nat} {z : Int} {lv' : jLv} (hd : decode cc pc = .ok (.istore i, 2)) (hn : i < nL) (hl : jset i (0, z) lv = lv') (h : J G y cc nL rT d S0 (pc + 2) lv' st S o) : J G y cc nL rT d S0 pc lv ((0, z) :: st) S o := j_st (fun hx hb h9 k => lv_istore hx hb hd h9 hn (by rw [← hl]; exact jset_lm i (0, z) lv) k) h
theorem j_lstore_n {k : Fin 4} {i : Nat} {z : Int} {lv' : jLv} (hd : decode cc pc = .ok (.lstore_n k, 1)) (hi : (k : Nat) = i) (hn : i + 1 < nL) (hl : jset2 i (1, z) lv = lv') (h : J G y cc nL rT d S0 (pc + 1) lv' st S o) : J G y cc nL rT d S0 pc lv ((1, z) :: st) S o := j_st (fun hx hb h9 k => lv_lstore_n hx hb hd hi h9 hn (by rw [← hl]; exact jset2_lm i (1, z) lv) k) h
theorem j_lstore {i : Nat} {z : Int} {lv' : jLv} (hd : decode cc pc = .ok (.lstore i, 2)) (hn : i + 1 < nL) (hl : jset2 i (1, z) lv = lv') (h : J G y cc nL rT d S0 (pc + 2) lv' st S o) : J G y cc nL rT d S0 pc lv ((1, z) :: st) S o := j_st (fun hx hb h9 k => lv_lstore hx hb hd h9 hn (by rw [← hl]; exact jset2_lm i (1, z) lv) k) h
theorem j_astore_n {k : Fin 4} {i : Nat} {z : Int} {lv' : jLv} (hd : decode cc pc = .ok (.astore_n k, 1)) (hi : (k : Nat) = i) (hn : i < nL) (hl : jset i (2, z) lv = lv') (h : J G y cc nL rT d S0 (pc + 1) lv' st S o) : J G y cc nL rT d S0 pc lv ((2, z) :: st) S o := j_st (fun hx hb h9 k => lv_astore_n hx hb hd hi h9 hn (by rw [← hl]; exact jset_lm i (2, z) lv) k) h
theorem j_astore {i : Nat} {z : Int} {lv' : jLv} (hd : decode cc pc = .ok (.astore i, 2)) (hn : i < nL) (hl : jset i (2, z) lv = lv') (h : J G y cc nL rT d S0 (pc + 2) lv' st S o) : J G y cc nL rT d S0 pc lv ((2, z) :: st) S o := j_st (fun hx hb h9 k => lv_astore hx hb hd h9 hn (by rw [← hl]; exact jset_lm i (2, z) lv) k) h
theorem j_astore_nq {k : Fin 4} {i : Nat} {z : Int} {lv' : jLv} (hd : decode cc pc = .ok (.astore_n k, 1)) (hi : (k : Nat) = i) (hn : i < nL) (hl : jset i (3, z) lv = lv') (h : J G y cc nL rT d S0 (pc + 1) lv' st S o) : J G y cc nL rT d S0 pc lv ((3, z) :: st) S o := j_st (fun hx hb h9 k => by
  have e := jset_lm i (3, z) lv
  rw [hl] at e
  rw [List.map_cons]
  by_cases hz : z < 0
  · rw [jval3n hz] at e ⊢
    exact lv_astore_nN hx hb hd hi h9 hn e k
  · rw [jval3r hz] at e ⊢
    exact lv_astore_n hx hb hd hi h9 hn e k) h
theorem j_astoreq {i : Nat} {z : Int} {lv' : jLv} (hd : decode cc pc = .ok (.astore i, 2)) (hn : i < nL) (hl : jset i (3, z) lv = lv') (h : J G y cc nL rT d S0 (pc + 2) lv' st S o) : J G y cc nL rT d S0 pc lv ((3, z) :: st) S o := j_st (fun hx hb h9 k => by
  have e := jset_lm i (3, z) lv
  rw [hl] at e
  rw [List.map_cons]
  by_cases hz : z < 0
  · rw [jval3n hz] at e ⊢
    exact lv_astoreN hx hb hd h9 hn e k
  · rw [jval3r hz] at e ⊢
    exact lv_astore hx hb hd h9 hn e k) h
theorem j_iinc {i q : Nat} {n z : Int} {lv' : jLv} (hd : decode cc pc = .ok (.iinc i n, 3)) (hq : lv[q]? = some (i, 0, z)) (hn : i < nL) (hl : jset i (0, w32 (z + n)) lv = lv') (h : J G y cc nL rT d S0 (pc + 3) lv' st S o) : J G y cc nL rT d S0 pc lv st S o := j_st (fun hx hb h9 k => lv_iinc (k := q) (x := Int32.ofInt z) (v := Int32.ofInt (w32 (z + n))) hx hb hd h9 (by unfold jlm; rw [List.getElem?_map, hq]; rfl) (by rw [of_w32, Int32.ofInt_add]) hn (by rw [← hl]; exact jset_lm i (0, w32 (z + n)) lv) k) h
-- guards and divisions
theorem j_guard {c : Prop} [Decidable c] (h : c → J G y cc nL rT d S0 pc lv st S o) : J G y cc nL rT d S0 pc lv st S (if c then o else none) := by
  by_cases hc : c
  · rw [if_pos hc]; exact h hc
  · rw [if_neg hc]; exact j_none
theorem j_ng {c : Prop} [Decidable c] (h : ¬ c → J G y cc nL rT d S0 pc lv st S o) : J G y cc nL rT d S0 pc lv st S (if c then none else o) := by
  by_cases hc : c
  · rw [if_pos hc]; exact j_none
  · rw [if_neg hc]; exact h hc
theorem j_idiv {a b : Int} (hb0 : R32 b) (hd : decode cc pc = .ok (.idiv, 1)) (h : J G y cc nL rT d S0 (pc + 1) lv ((0, idiv32 a b) :: st) S o) : J G y cc nL rT d S0 pc lv ((0, b) :: (0, a) :: st) S (if b = 0 then none else o) := j_ng fun e => j_lift (fun hx hb _ k => lv_idiv hx hb hd (fun q => e ((jeq_of0 hb0).mp q)) (by
  have e2 : Int32.ofInt a / Int32.ofInt b = Int32.ofInt (idiv32 a b) := (jof_toInt _).symm
  rw [e2]; exact k)) h
theorem j_irem {a b : Int} (hb0 : R32 b) (hd : decode cc pc = .ok (.irem, 1)) (h : J G y cc nL rT d S0 (pc + 1) lv ((0, irem32 a b) :: st) S o) : J G y cc nL rT d S0 pc lv ((0, b) :: (0, a) :: st) S (if b = 0 then none else o) := j_ng fun e => j_lift (fun hx hb _ k => lv_irem hx hb hd (fun q => e ((jeq_of0 hb0).mp q)) (by
  have e2 : Int32.ofInt a - Int32.ofInt a / Int32.ofInt b * Int32.ofInt b = Int32.ofInt (irem32 a b) := (jof_toInt _).symm
  rw [e2]; exact k)) h
theorem R64_0 : R64 0 := by unfold R64; omega
theorem j_ldiv {a b : Int} (hb0 : R64 b) (hd : decode cc pc = .ok (.ldiv, 1)) (h : J G y cc nL rT d S0 (pc + 1) lv ((1, ldiv64 a b) :: st) S o) : J G y cc nL rT d S0 pc lv ((1, b) :: (1, a) :: st) S (if b = 0 then none else o) := j_ng fun e => j_lift (fun hx hb _ k => lv_ldiv hx hb hd (fun q => e ((jeq_of64 hb0 R64_0).mp q)) (by
  have e2 : Int64.ofInt a / Int64.ofInt b = Int64.ofInt (ldiv64 a b) := (jof_toInt64 _).symm
  rw [e2]; exact k)) h
theorem j_lrem {a b : Int} (hb0 : R64 b) (hd : decode cc pc = .ok (.lrem, 1)) (h : J G y cc nL rT d S0 (pc + 1) lv ((1, lrem64 a b) :: st) S o) : J G y cc nL rT d S0 pc lv ((1, b) :: (1, a) :: st) S (if b = 0 then none else o) := j_ng fun e => j_lift (fun hx hb _ k => lv_lrem hx hb hd (fun q => e ((jeq_of64 hb0 R64_0).mp q)) (by
  have e2 : Int64.ofInt a - Int64.ofInt a / Int64.ofInt b * Int64.ofInt b = Int64.ofInt (lrem64 a b) := (jof_toInt64 _).symm
  rw [e2]; exact k)) h
-- constants out of the pool
theorem j_ldc {idx : Nat} {z : Int} (hw : Cond.constant y.cls idx (Int32.ofInt z) ∈ lw_g) (hd : decode cc pc = .ok (.ldc idx, 2)) (h : J G y cc nL rT d S0 (pc + 2) lv ((0, z) :: st) S o) : J G y cc nL rT d S0 pc lv st S o := fun hwf r Se ho =>
  let ⟨h1, h3⟩ := h hwf r Se ho
  ⟨h1, fun p e R s m args below meth c H locs ls ok a1 a2 a3 a4 a5 a6 a7 a8 a9 a10 => lv_ldc ok.1 ok.2.1 ok.2.2.2.1 (ok.2.2.2.2.1 _ hw) hd (h3 p e R s m args below meth c H locs ls ok a1 a2 a3 a4 a5 a6 a7 a8 a9 a10)⟩
theorem j_ldc_w {idx : Nat} {z : Int} (hw : Cond.constant y.cls idx (Int32.ofInt z) ∈ lw_g) (hd : decode cc pc = .ok (.ldc_w idx, 3)) (h : J G y cc nL rT d S0 (pc + 3) lv ((0, z) :: st) S o) : J G y cc nL rT d S0 pc lv st S o := fun hwf r Se ho =>
  let ⟨h1, h3⟩ := h hwf r Se ho
  ⟨h1, fun p e R s m args below meth c H locs ls ok a1 a2 a3 a4 a5 a6 a7 a8 a9 a10 => lv_ldcw ok.1 ok.2.1 ok.2.2.2.1 (ok.2.2.2.2.1 _ hw) hd (h3 p e R s m args below meth c H locs ls ok a1 a2 a3 a4 a5 a6 a7 a8 a9 a10)⟩
theorem j_ldc2 {idx : Nat} {z : Int} (hw : Cond.constantLong y.cls idx (Int64.ofInt z) ∈ lw_g) (hd : decode cc pc = .ok (.ldc2_w idx, 3)) (h : J G y cc nL rT d S0 (pc + 3) lv ((1, z) :: st) S o) : J G y cc nL rT d S0 pc lv st S o := fun hwf r Se ho =>
  let ⟨h1, h3⟩ := h hwf r Se ho
  ⟨h1, fun p e R s m args below meth c H locs ls ok a1 a2 a3 a4 a5 a6 a7 a8 a9 a10 => lv_ldc2 ok.1 ok.2.1 ok.2.2.2.1 (ok.2.2.2.2.1 _ hw) hd (h3 p e R s m args below meth c H locs ls ok a1 a2 a3 a4 a5 a6 a7 a8 a9 a10)⟩
end JM
