/-! The J layer: a functional heap (numbers, and tables of kinds) over the kit's worlds; a judgement J of a frame against a functional computation; a row an instruction. -/
def w32 (z : Int) : Int := (Int32.ofInt z).toInt
def w64 (z : Int) : Int := (Int64.ofInt z).toInt
def R32 (z : Int) : Prop := -2147483648 ≤ z ∧ z ≤ 2147483647
def R64 (z : Int) : Prop := -9223372036854775808 ≤ z ∧ z ≤ 9223372036854775807
theorem w32_id {z : Int} (h : R32 z) : w32 z = z := by
  unfold w32
  obtain ⟨h1, h2⟩ := h
  rw [Int32.toInt_ofInt, Int.bmod_eq_of_le] <;> simp only [Int32.size] <;> omega
theorem w64_id {z : Int} (h : R64 z) : w64 z = z := by
  unfold w64
  obtain ⟨h1, h2⟩ := h
  rw [Int64.toInt_ofInt, Int.bmod_eq_of_le] <;> simp only [Int64.size] <;> omega
theorem R32_toInt (x : Int32) : R32 x.toInt := by
  have h1 := x.le_toInt
  have h2 := x.toInt_lt
  unfold R32
  omega
theorem R64_toInt (x : Int64) : R64 x.toInt := by
  have h1 := x.le_toInt
  have h2 := x.toInt_lt
  unfold R64
  omega
theorem w32_R (z : Int) : R32 (w32 z) := R32_toInt _
theorem w64_R (z : Int) : R64 (w64 z) := R64_toInt _
theorem of_w32 (z : Int) : Int32.ofInt (w32 z) = Int32.ofInt z := by unfold w32; exact Int32.ofInt_toInt _
theorem of_w64 (z : Int) : Int64.ofInt (w64 z) = Int64.ofInt z := by unfold w64; exact Int64.ofInt_toInt _
theorem jof_toInt (x : Int32) : Int32.ofInt x.toInt = x := Int32.ofInt_toInt _
theorem jof_toInt64 (x : Int64) : Int64.ofInt x.toInt = x := Int64.ofInt_toInt _
theorem R32_R64 {z : Int} (h : R32 z) : R64 z := by
  unfold R32 at h
  unfold R64
  omega
theorem jto_of {z : Int} (h : R32 z) : (Int32.ofInt z).toInt = z := w32_id h
theorem jto_of64 {z : Int} (h : R64 z) : (Int64.ofInt z).toInt = z := w64_id h
theorem jlt_of {a b : Int} (ha : R32 a) (hb : R32 b) : Int32.ofInt a < Int32.ofInt b ↔ a < b := by
  rw [Int32.lt_iff_toInt_lt, jto_of ha, jto_of hb]
theorem jle_of {a b : Int} (ha : R32 a) (hb : R32 b) : Int32.ofInt a ≤ Int32.ofInt b ↔ a ≤ b := by
  rw [Int32.le_iff_toInt_le, jto_of ha, jto_of hb]
theorem jeq_of {a b : Int} (ha : R32 a) (hb : R32 b) : Int32.ofInt a = Int32.ofInt b ↔ a = b := by
  rw [← Int32.toInt_inj, jto_of ha, jto_of hb]
theorem R32_0 : R32 0 := by unfold R32; omega
theorem jeq_of0 {a : Int} (ha : R32 a) : Int32.ofInt a = 0 ↔ a = 0 := jeq_of ha R32_0
theorem jlt_of0 {a : Int} (ha : R32 a) : Int32.ofInt a < 0 ↔ a < 0 := jlt_of ha R32_0
theorem jgt_of0 {a : Int} (ha : R32 a) : (0 : Int32) < Int32.ofInt a ↔ 0 < a := jlt_of R32_0 ha
theorem jle_of0 {a : Int} (ha : R32 a) : Int32.ofInt a ≤ 0 ↔ a ≤ 0 := jle_of ha R32_0
theorem jge_of0 {a : Int} (ha : R32 a) : (0 : Int32) ≤ Int32.ofInt a ↔ 0 ≤ a := jle_of R32_0 ha
theorem jclamp_of {z : Int} (h : R32 z) (h0 : 0 ≤ z) : (Int32.ofInt z).toNatClampNeg = z.toNat := by
  show (Int32.ofInt z).toInt.toNat = z.toNat
  rw [jto_of h]
theorem jin_of {z : Int} {N : Nat} (h : R32 z) (h0 : 0 ≤ z) (h1 : z < N) : vp_in (Int32.ofInt z) N := by
  unfold vp_in
  rw [jlt_of0 h, jclamp_of h h0]
  omega
-- the numbers' operations
def iand32 (a b : Int) : Int := (Int32.ofInt a &&& Int32.ofInt b).toInt
def ior32 (a b : Int) : Int := (Int32.ofInt a ||| Int32.ofInt b).toInt
def ixor32 (a b : Int) : Int := (Int32.ofInt a ^^^ Int32.ofInt b).toInt
def ishl32 (a b : Int) : Int := (Int32.ofInt a <<< (Int32.ofInt b &&& 31)).toInt
def ishr32 (a b : Int) : Int := (Int32.ofInt a >>> (Int32.ofInt b &&& 31)).toInt
def iushr32 (a b : Int) : Int := ((Int32.ofInt a).toUInt32 >>> ((Int32.ofInt b).toUInt32 &&& Int32.toUInt32 31)).toInt32.toInt
def idiv32 (a b : Int) : Int := (Int32.ofInt a / Int32.ofInt b).toInt
def irem32 (a b : Int) : Int := (Int32.ofInt a - Int32.ofInt a / Int32.ofInt b * Int32.ofInt b).toInt
def lor64 (a b : Int) : Int := (Int64.ofInt a ||| Int64.ofInt b).toInt
def lshl64 (a b : Int) : Int := (Int64.ofInt a <<< ((Int32.ofInt b).toInt64 &&& 63)).toInt
def lshr64 (a b : Int) : Int := (Int64.ofInt a >>> ((Int32.ofInt b).toInt64 &&& 63)).toInt
def ldiv64 (a b : Int) : Int := (Int64.ofInt a / Int64.ofInt b).toInt
def lrem64 (a b : Int) : Int := (Int64.ofInt a - Int64.ofInt a / Int64.ofInt b * Int64.ofInt b).toInt
def i2c32 (a : Int) : Int := ((Int32.ofInt a).toUInt32 % 65536).toInt32.toInt
-- values by tags: 0 int, 1 long, 2 a reference, 3 a reference or null
def jval (v : Nat × Int) : Value := match v.1 with
  | 0 => .int (Int32.ofInt v.2)
  | 1 => .long (Int64.ofInt v.2)
  | 2 => .ref v.2.toNat
  | _ => if v.2 < 0 then .null else .ref v.2.toNat
theorem jval_cat (v : Nat × Int) : (jval v).category = if v.1 = 1 then 2 else 1 := by
  obtain ⟨t, z⟩ := v
  match t with
  | 0 => rfl
  | 1 => rfl
  | 2 => rfl
  | t + 3 =>
    show (if z < 0 then Value.null else Value.ref z.toNat).category = _
    by_cases h : z < 0 <;> simp [h, Value.category]
abbrev jLv : Type := List (Nat × Nat × Int)
abbrev jSk : Type := List (Nat × Int)
def jlm (lv : jLv) : List (Nat × Value) := lv.map fun q => (q.1, jval q.2)
def jset (i : Nat) (v : Nat × Int) (lv : jLv) : jLv := (i, v) :: lv.filter fun q => !(q.1 == i) && !(q.1 + 1 == i && q.2.1 == 1)
def jset2 (i : Nat) (v : Nat × Int) (lv : jLv) : jLv := (i, v) :: lv.filter fun q => !(q.1 == i) && (!(q.1 == i + 1) && !(q.1 + 1 == i && q.2.1 == 1))
theorem jcat2 (v : Nat × Int) : ((jval v).category == 2) = (v.1 == 1) := by
  rw [jval_cat]
  by_cases h : v.1 = 1 <;> simp [h]
theorem jset_lm (i : Nat) (v : Nat × Int) (lv : jLv) : (i, jval v) :: (jlm lv).filter (fun q => !(q.1 == i) && !(q.1 + 1 == i && q.2.category == 2)) = jlm (jset i v lv) := by
  unfold jlm jset
  rw [List.filter_map, List.map_cons]
  congr 2
  apply List.filter_congr
  intro q _
  show (!(q.1 == i) && !(q.1 + 1 == i && (jval q.2).category == 2)) = _
  rw [jcat2]
theorem jset2_lm (i : Nat) (v : Nat × Int) (lv : jLv) : (i, jval v) :: (jlm lv).filter (fun q => !(q.1 == i) && (!(q.1 == i + 1) && !(q.1 + 1 == i && q.2.category == 2))) = jlm (jset2 i v lv) := by
  unfold jlm jset2
  rw [List.filter_map, List.map_cons]
  congr 2
  apply List.filter_congr
  intro q _
  show (!(q.1 == i) && (!(q.1 == i + 1) && !(q.1 + 1 == i && (jval q.2).category == 2))) = _
  rw [jcat2]
theorem jlm_at {ls : Array Slot} {nL : Nat} {lv : jLv} (h : lv_has ls nL (jlm lv)) (k : Nat) {i : Nat} {v : Nat × Int} (hk : lv[k]? = some (i, v)) : ls[i]? = some (.val (jval v)) := by
  refine lv_at h k (v := jval v) (i := i) ?_
  unfold jlm
  rw [List.getElem?_map, hk]
  rfl
theorem jlm_sub {ls : Array Slot} {nL : Nat} {lv lv' : jLv} (h : lv_has ls nL (jlm lv)) (ks : List Nat) (hs : ks.filterMap (fun k => lv[k]?) = lv') : lv_has ls nL (jlm lv') := by
  refine ⟨h.1, h.2.1, fun q hq => ?_⟩
  obtain ⟨x, hx, rfl⟩ := List.mem_map.mp hq
  rw [← hs] at hx
  obtain ⟨k, -, hk⟩ := List.mem_filterMap.mp hx
  exact jlm_at h k (v := x.2) hk
