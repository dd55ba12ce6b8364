-- small words for the printed walks
def jN : Nat := 5000
def jrep {β : Type} (z : β) (s : β → β) : Nat → β
  | 0 => z
  | n + 1 => s (jrep z s n)
theorem jrep_ind {β : Type} {P : β → Prop} {z : β} {s : β → β} (h0 : P z) (hs : ∀ b, P b → P (s b)) : ∀ n, P (jrep z s n)
  | 0 => h0
  | n + 1 => hs _ (jrep_ind h0 hs n)
def flet (z : Int) (f : Int → Option (Int × jSt)) : Option (Int × jSt) := f z
theorem j_r32 (z : Int) (h : (decide (-2147483648 ≤ z) && decide (z ≤ 2147483647)) = true) : R32 z := by
  simp only [Bool.and_eq_true, decide_eq_true_eq] at h
  exact h
theorem j_r64 (z : Int) (h : (decide (-9223372036854775808 ≤ z) && decide (z ≤ 9223372036854775807)) = true) : R64 z := by
  simp only [Bool.and_eq_true, decide_eq_true_eq] at h
  exact h
theorem jZ_R {z : Int} (h : z = 0 ∨ z = 1) : R32 z := by
  unfold R32
  omega
theorem jz0 : (0 : Int) = 0 ∨ (0 : Int) = 1 := Or.inl rfl
theorem jz1 : (1 : Int) = 0 ∨ (1 : Int) = 1 := Or.inr rfl
theorem iand32_R (a b : Int) : R32 (iand32 a b) := R32_toInt _
theorem ior32_R (a b : Int) : R32 (ior32 a b) := R32_toInt _
theorem ixor32_R (a b : Int) : R32 (ixor32 a b) := R32_toInt _
theorem ishl32_R (a b : Int) : R32 (ishl32 a b) := R32_toInt _
theorem ishr32_R (a b : Int) : R32 (ishr32 a b) := R32_toInt _
theorem iushr32_R (a b : Int) : R32 (iushr32 a b) := R32_toInt _
theorem idiv32_R (a b : Int) : R32 (idiv32 a b) := R32_toInt _
theorem irem32_R (a b : Int) : R32 (irem32 a b) := R32_toInt _
theorem i2c32_R (a : Int) : R32 (i2c32 a) := R32_toInt _
theorem lor64_R (a b : Int) : R64 (lor64 a b) := R64_toInt _
theorem lshl64_R (a b : Int) : R64 (lshl64 a b) := R64_toInt _
theorem lshr64_R (a b : Int) : R64 (lshr64 a b) := R64_toInt _
theorem ldiv64_R (a b : Int) : R64 (ldiv64 a b) := R64_toInt _
theorem lrem64_R (a b : Int) : R64 (lrem64 a b) := R64_toInt _
theorem jfits_z {z : Int} : fits .boolean (.int (Int32.ofInt z)) = true ∨ True := Or.inr trivial
def imax (a b : Int) : Int := if a < b then b else a
def imin (a b : Int) : Int := if b < a then b else a
theorem imax_R {a b : Int} (ha : R32 a) (hb : R32 b) : R32 (imax a b) := by
  unfold imax
  split
  · exact hb
  · exact ha
theorem imin_R {a b : Int} (ha : R32 a) (hb : R32 b) : R32 (imin a b) := by
  unfold imin
  split
  · exact hb
  · exact ha
theorem imax_R64 {a b : Int} (ha : R64 a) (hb : R64 b) : R64 (imax a b) := by
  unfold imax
  split
  · exact hb
  · exact ha
section JW
variable {G : jG} {y : MethodName} {cc : ByteArray} {nL : Nat} {rT : Option FieldType} {d : Nat} {S0 S : jSt} {pc : Nat} {lv : jLv} {st : jSk} {o : Option (Int × jSt)}
theorem j_leti {z : Int} {t : Nat} {f : Int → Option (Int × jSt)} (hz : R32 z) (h : ∀ v : Int, R32 v → J G y cc nL rT d S0 pc lv ((t, v) :: st) S (f v)) : J G y cc nL rT d S0 pc lv ((t, z) :: st) S (flet z f) := h z hz
theorem j_letl {z : Int} {t : Nat} {f : Int → Option (Int × jSt)} (hz : R64 z) (h : ∀ v : Int, R64 v → J G y cc nL rT d S0 pc lv ((t, v) :: st) S (f v)) : J G y cc nL rT d S0 pc lv ((t, z) :: st) S (flet z f) := h z hz
theorem j_lv {lv' : jLv} (e : lv = lv') (h : J G y cc nL rT d S0 pc lv' st S o) : J G y cc nL rT d S0 pc lv st S o := e ▸ h
theorem j_iincL {i q : Nat} {n z : Int} {f : Int → Option (Int × jSt)} (hd : decode cc pc = .ok (.iinc i n, 3)) (hq : lv[q]? = some (i, 0, z)) (hn : i < nL) (h : ∀ v : Int, R32 v → J G y cc nL rT d S0 (pc + 3) (jset i (0, v) lv) st S (f v)) : J G y cc nL rT d S0 pc lv st S (flet (w32 (z + n)) f) := j_iinc hd hq hn rfl (h _ (w32_R _))
theorem j_ite {c : Prop} [Decidable c] {o1 o2 : Option (Int × jSt)} (h1 : c → J G y cc nL rT d S0 pc lv st S o1) (h2 : ¬ c → J G y cc nL rT d S0 pc lv st S o2) : J G y cc nL rT d S0 pc lv st S (if c then o1 else o2) := by
  by_cases hc : c
  · rw [if_pos hc]; exact h1 hc
  · rw [if_neg hc]; exact h2 hc
theorem j_puti {ci k idx : Nat} {C : String} {T : u_T} {N : Nat} {a z : Int} {ty0 : Nat → FieldType} {f : jSt → Option (Int × jSt)} (hc : vwCl[ci]? = some (C, T, N)) (hin : ∀ w ∈ u_ws C T N, w ∈ lw_g) (hk : k < N) (hN : jnO ci = N) (hty0 : ∀ k, k < N → parseFieldDescriptor (T k).2.2.1 = some (ty0 k)) (hnm : ∀ a, a < N → ∀ b, b < N → a ≠ b → (T a).2.1 ≠ (T b).2.1) (hti : jtyO ci k = .int) (hfin : (T k).2.2.2 = false) (hty : parseFieldDescriptor (T k).2.2.1 = some .int) (hz : R32 z) (hw : Cond.fieldLink y.cls idx (T k).1 (T k).2.1 (T k).2.2.1 ∈ lw_g) (hd : decode cc pc = .ok (.putfield idx, 3))
    (h : ∀ S1 : jSt, J G y cc nL rT d S0 (pc + 3) lv st S1 (f S1)) : J G y cc nL rT d S0 pc lv ((0, z) :: (2, a) :: st) S (fput S a ci k z f) := j_put (t := 0) (ty := .int) hc hin hk hN hty0 hnm (by rw [hti]; rfl) hfin hty rfl rfl (by rw [hti]; exact hz) hw hd h
theorem j_putz {ci k idx : Nat} {C : String} {T : u_T} {N : Nat} {a z : Int} {ty0 : Nat → FieldType} {f : jSt → Option (Int × jSt)} (hc : vwCl[ci]? = some (C, T, N)) (hin : ∀ w ∈ u_ws C T N, w ∈ lw_g) (hk : k < N) (hN : jnO ci = N) (hty0 : ∀ k, k < N → parseFieldDescriptor (T k).2.2.1 = some (ty0 k)) (hnm : ∀ a, a < N → ∀ b, b < N → a ≠ b → (T a).2.1 ≠ (T b).2.1) (hti : jtyO ci k = .boolean) (hfin : (T k).2.2.2 = false) (hty : parseFieldDescriptor (T k).2.2.1 = some .boolean) (hz : z = 0 ∨ z = 1) (hw : Cond.fieldLink y.cls idx (T k).1 (T k).2.1 (T k).2.2.1 ∈ lw_g) (hd : decode cc pc = .ok (.putfield idx, 3))
    (h : ∀ S1 : jSt, J G y cc nL rT d S0 (pc + 3) lv st S1 (f S1)) : J G y cc nL rT d S0 pc lv ((0, z) :: (2, a) :: st) S (fput S a ci k z f) := j_put (t := 0) (ty := .boolean) hc hin hk hN hty0 hnm (by rw [hti]; rfl) hfin hty (jnar_z hz) (by rcases hz with rfl | rfl <;> rfl) (by rw [hti]; exact hz) hw hd h
theorem j_putl {ci k idx : Nat} {C : String} {T : u_T} {N : Nat} {a z : Int} {ty0 : Nat → FieldType} {f : jSt → Option (Int × jSt)} (hc : vwCl[ci]? = some (C, T, N)) (hin : ∀ w ∈ u_ws C T N, w ∈ lw_g) (hk : k < N) (hN : jnO ci = N) (hty0 : ∀ k, k < N → parseFieldDescriptor (T k).2.2.1 = some (ty0 k)) (hnm : ∀ a, a < N → ∀ b, b < N → a ≠ b → (T a).2.1 ≠ (T b).2.1) (hti : jtyO ci k = .long) (hfin : (T k).2.2.2 = false) (hty : parseFieldDescriptor (T k).2.2.1 = some .long) (hz : R64 z) (hw : Cond.fieldLink y.cls idx (T k).1 (T k).2.1 (T k).2.2.1 ∈ lw_g) (hd : decode cc pc = .ok (.putfield idx, 3))
    (h : ∀ S1 : jSt, J G y cc nL rT d S0 (pc + 3) lv st S1 (f S1)) : J G y cc nL rT d S0 pc lv ((1, z) :: (2, a) :: st) S (fput S a ci k z f) := j_put (t := 1) (ty := .long) hc hin hk hN hty0 hnm (by rw [hti]; rfl) hfin hty rfl rfl (by rw [hti]; exact hz) hw hd h
theorem j_putFi {ci k idx : Nat} {C : String} {T : u_T} {N : Nat} {a z : Int} {ty0 : Nat → FieldType} {f : jSt → Option (Int × jSt)} (hc : vwCl[ci]? = some (C, T, N)) (hin : ∀ w ∈ u_ws C T N, w ∈ lw_g) (hk : k < N) (hN : jnO ci = N) (hty0 : ∀ k, k < N → parseFieldDescriptor (T k).2.2.1 = some (ty0 k)) (hnm : ∀ a, a < N → ∀ b, b < N → a ≠ b → (T a).2.1 ≠ (T b).2.1) (hti : jtyO ci k = .int) (hfin : (T k).2.2.2 = true) (hin2 : y.name = "<init>") (hdecl : (T k).1 = y.cls) (hty : parseFieldDescriptor (T k).2.2.1 = some .int) (hz : R32 z) (hw : Cond.fieldLink y.cls idx (T k).1 (T k).2.1 (T k).2.2.1 ∈ lw_g) (hd : decode cc pc = .ok (.putfield idx, 3))
    (h : ∀ S1 : jSt, J G y cc nL rT d S0 (pc + 3) lv st S1 (f S1)) : J G y cc nL rT d S0 pc lv ((0, z) :: (2, a) :: st) S (fput S a ci k z f) := j_putF (t := 0) (t2 := 0) (ty := .int) hc hin hk hN hty0 hnm (by rw [hti]; rfl) hfin hin2 hdecl hty rfl rfl rfl (by rw [hti]; exact hz) hw hd h
theorem j_putFr {ci k idx : Nat} {C : String} {T : u_T} {N : Nat} {a z : Int} {ty0 : Nat → FieldType} {ty : FieldType} {f : jSt → Option (Int × jSt)} (hc : vwCl[ci]? = some (C, T, N)) (hin : ∀ w ∈ u_ws C T N, w ∈ lw_g) (hk : k < N) (hN : jnO ci = N) (hty0 : ∀ k, k < N → parseFieldDescriptor (T k).2.2.1 = some (ty0 k)) (hnm : ∀ a, a < N → ∀ b, b < N → a ≠ b → (T a).2.1 ≠ (T b).2.1) (hti : jtyO ci k = ty) (htr : (∃ c, ty = .object c) ∨ ∃ t, ty = .array t) (hfin : (T k).2.2.2 = true) (hin2 : y.name = "<init>") (hdecl : (T k).1 = y.cls) (hty : parseFieldDescriptor (T k).2.2.1 = some ty) (hz : 0 ≤ z) (hw : Cond.fieldLink y.cls idx (T k).1 (T k).2.1 (T k).2.2.1 ∈ lw_g) (hd : decode cc pc = .ok (.putfield idx, 3))
    (h : ∀ S1 : jSt, J G y cc nL rT d S0 (pc + 3) lv st S1 (f S1)) : J G y cc nL rT d S0 pc lv ((2, z) :: (2, a) :: st) S (fput S a ci k z f) := by
  have e : jval (2, z) = jval (3, z) := (jval3r (by omega)).symm
  rcases htr with ⟨c, rfl⟩ | ⟨t, rfl⟩
  · exact j_putF (t := 3) (t2 := 2) (ty := .object c) hc hin hk hN hty0 hnm (by rw [hti]; rfl) hfin hin2 hdecl hty e rfl rfl (by rw [hti]; exact trivial) hw hd h
  · exact j_putF (t := 3) (t2 := 2) (ty := .array t) hc hin hk hN hty0 hnm (by rw [hti]; rfl) hfin hin2 hdecl hty e rfl rfl (by rw [hti]; exact trivial) hw hd h
theorem j_mmax {idx : Nat} {a b : Int} (ha : R32 a) (hb : R32 b) (hw1 : Cond.methodLink y.cls idx Lib.Math.max.name ∈ lw_g) (hw2 : Cond.static Lib.Math.max.name ∈ lw_g) (hw3 : Cond.initialized "java/lang/Math" ∈ lw_g) (hw4 : Cond.code Lib.Math.max.name Lib.Math.max.code 2 (some .int) ∈ lw_g) (hst : jwords st ≤ 8) (hd1 : 1 ≤ d) (hd : decode cc pc = .ok (.invokestatic idx, 3)) (h : J G y cc nL rT d S0 (pc + 3) lv ((0, imax a b) :: st) S o) : J G y cc nL rT d S0 pc lv ((0, b) :: (0, a) :: st) S o := fun hwf r Se ho =>
  let ⟨h1, h3⟩ := h hwf r Se ho
  ⟨h1, fun p e R s m args below meth c H locs ls ok a1 a2 a3 a4 a5 a6 a7 a8 a9 a10 => va_mmax ok.1 ok.2.1 (by rw [ok.2.2.1]; exact a10.1.symm) ok.2.2.2.1 (ok.2.2.2.2.1 _ hw1) (ok.2.2.2.2.1 _ hw2) (ok.2.2.2.2.1 _ hw3) (ok.2.2.2.2.1 _ hw4) (by omega) (by rw [jcats st]; omega) (by have := h1.1; omega) (by have := h1.2.1; omega) hd (by
    have e9 : (if Int32.ofInt a < Int32.ofInt b then Int32.ofInt b else Int32.ofInt a) = Int32.ofInt (imax a b) := by
      unfold imax
      by_cases q : a < b
      · rw [if_pos q, if_pos ((jlt_of ha hb).mpr q)]
      · rw [if_neg q, if_neg (fun z => q ((jlt_of ha hb).mp z))]
    rw [e9]
    exact h3 p e R s m args below meth c H locs ls ok a1 a2 a3 a4 a5 a6 a7 a8 a9 a10)⟩
theorem j_mmin {idx : Nat} {a b : Int} (ha : R32 a) (hb : R32 b) (hw1 : Cond.methodLink y.cls idx Lib.Math.min.name ∈ lw_g) (hw2 : Cond.static Lib.Math.min.name ∈ lw_g) (hw3 : Cond.initialized "java/lang/Math" ∈ lw_g) (hw4 : Cond.code Lib.Math.min.name Lib.Math.min.code 2 (some .int) ∈ lw_g) (hst : jwords st ≤ 8) (hd1 : 1 ≤ d) (hd : decode cc pc = .ok (.invokestatic idx, 3)) (h : J G y cc nL rT d S0 (pc + 3) lv ((0, imin a b) :: st) S o) : J G y cc nL rT d S0 pc lv ((0, b) :: (0, a) :: st) S o := fun hwf r Se ho =>
  let ⟨h1, h3⟩ := h hwf r Se ho
  ⟨h1, fun p e R s m args below meth c H locs ls ok a1 a2 a3 a4 a5 a6 a7 a8 a9 a10 => va_mmin ok.1 ok.2.1 (by rw [ok.2.2.1]; exact a10.1.symm) ok.2.2.2.1 (ok.2.2.2.2.1 _ hw1) (ok.2.2.2.2.1 _ hw2) (ok.2.2.2.2.1 _ hw3) (ok.2.2.2.2.1 _ hw4) (by omega) (by rw [jcats st]; omega) (by have := h1.1; omega) (by have := h1.2.1; omega) hd (by
    have e9 : (if Int32.ofInt b < Int32.ofInt a then Int32.ofInt b else Int32.ofInt a) = Int32.ofInt (imin a b) := by
      unfold imin
      by_cases q : b < a
      · rw [if_pos q, if_pos ((jlt_of hb ha).mpr q)]
      · rw [if_neg q, if_neg (fun z => q ((jlt_of hb ha).mp z))]
    rw [e9]
    exact h3 p e R s m args below meth c H locs ls ok a1 a2 a3 a4 a5 a6 a7 a8 a9 a10)⟩
theorem j_mmaxl {idx : Nat} {a b : Int} (ha : R64 a) (hb : R64 b) (hw1 : Cond.methodLink y.cls idx Lib.MathLoose.max_long.x ∈ lw_g) (hw2 : Cond.static Lib.MathLoose.max_long.x ∈ lw_g) (hw3 : Cond.initialized "java/lang/Math" ∈ lw_g) (hw4 : Cond.code Lib.MathLoose.max_long.x Lib.MathLoose.max_long.code 4 (some .long) ∈ lw_g) (hst : jwords st ≤ 8) (hd1 : 1 ≤ d) (hd : decode cc pc = .ok (.invokestatic idx, 3)) (h : J G y cc nL rT d S0 (pc + 3) lv ((1, imax a b) :: st) S o) : J G y cc nL rT d S0 pc lv ((1, b) :: (1, a) :: st) S o := fun hwf r Se ho =>
  let ⟨h1, h3⟩ := h hwf r Se ho
  ⟨h1, fun p e R s m args below meth c H locs ls ok a1 a2 a3 a4 a5 a6 a7 a8 a9 a10 => va_mmax_long ok.1 ok.2.1 (by rw [ok.2.2.1]; exact a10.1.symm) ok.2.2.2.1 (ok.2.2.2.2.1 _ hw1) (ok.2.2.2.2.1 _ hw2) (ok.2.2.2.2.1 _ hw3) (ok.2.2.2.2.1 _ hw4) (by omega) (by rw [jcats st]; omega) (by have := h1.1; omega) (by have := h1.2.1; omega) hd (by
    have e9 : (if Int64.ofInt b < Int64.ofInt a then Int64.ofInt a else Int64.ofInt b) = Int64.ofInt (imax a b) := by
      unfold imax
      by_cases q : b < a
      · rw [if_pos ((jlt_of64 hb ha).mpr q), if_neg (show ¬ a < b by omega)]
      · rw [if_neg (fun z => q ((jlt_of64 hb ha).mp z))]
        by_cases q2 : a < b
        · rw [if_pos q2]
        · rw [if_neg q2, show a = b by omega]
    rw [e9]
    exact h3 p e R s m args below meth c H locs ls ok a1 a2 a3 a4 a5 a6 a7 a8 a9 a10)⟩
end JW
section JX
variable {G : jG} {y : MethodName} {cc : ByteArray} {nL : Nat} {d : Nat} {S0 S : jSt} {pc : Nat} {lv : jLv}
theorem j_areturnA {z : Int} {t : FieldType} (hd : decode cc pc = .ok (.areturn, 1)) : J G y cc nL (some (.array t)) d S0 pc lv [(3, z)] S (some (z, S)) := j_rt (rT := some (.array t)) trivial (fun ok hq hf => W.aret (rt := .array t) ok.1 ok.2.1 ok.2.2.2.2.2.2.2.1 (Or.inr ⟨_, rfl⟩) (by
  by_cases h : z < 0
  · exact Or.inl (jval3n h)
  · exact Or.inr ⟨z.toNat, jval3r h⟩) hq hf hd ok.2.2.2.2.2.2.1)
end JX
