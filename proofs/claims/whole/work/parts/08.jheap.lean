-- reading and writing the functional heap; none where it can't be
def fget (S : jSt) (a : Int) (ci k : Nat) (f : Int → Option (Int × jSt)) : Option (Int × jSt) := if jty S a = (0, ci) then f (jg S a k) else none
def fgetr (S : jSt) (a : Int) (ci k : Nat) (f : Int → Option (Int × jSt)) : Option (Int × jSt) := if jty S a = (0, ci) ∧ 0 ≤ jg S a k then f (jg S a k) else none
def fput (S : jSt) (a : Int) (ci k : Nat) (z : Int) (f : jSt → Option (Int × jSt)) : Option (Int × jSt) := if jty S a = (0, ci) then f (jput S a k z) else none
def fald (S : jSt) (a i : Int) (kd : Nat) (f : Int → Option (Int × jSt)) : Option (Int × jSt) := if (jty S a).1 = kd ∧ 0 ≤ i ∧ i < ((jty S a).2 : Int) then f (jg S a i.toNat) else none
def fast (S : jSt) (a i : Int) (kd : Nat) (z : Int) (f : jSt → Option (Int × jSt)) : Option (Int × jSt) := if (jty S a).1 = kd ∧ 0 ≤ i ∧ i < ((jty S a).2 : Int) then f (jput S a i.toNat z) else none
def fastr (S : jSt) (a i : Int) (kd ci : Nat) (z : Int) (f : jSt → Option (Int × jSt)) : Option (Int × jSt) := if (jty S a).1 = kd ∧ 0 ≤ i ∧ i < ((jty S a).2 : Int) ∧ (z < 0 ∨ jty S z = (0, ci)) then f (jput S a i.toNat z) else none
def flen (S : jSt) (a : Int) (kd : Nat) (f : Int → Option (Int × jSt)) : Option (Int × jSt) := if (jty S a).1 = kd ∧ (jty S a).2 < 2147483648 then f ((jty S a).2 : Int) else none
theorem jput_wf {S : jSt} (h : jWf S) {a : Int} {k : Nat} {z : Int} (hf : jfit (jty S a) k z) : jWf (jput S a k z) := by
  intro b j
  show jfit (S.2.2.1 b) j (va_up S.2.2.2 a.toNat (va_up (S.2.2.2 a.toNat) k z) b j)
  unfold va_up
  by_cases hb : b = a.toNat
  · simp only [if_pos hb]
    by_cases hj : j = k
    · rw [if_pos hj, hb, hj]
      exact hf
    · rw [if_neg hj, hb]
      exact h a.toNat j
  · simp only [if_neg hb]
    exact h b j
section JH
variable {G : jG} {y : MethodName} {cc : ByteArray} {nL : Nat} {rT : Option FieldType} {d : Nat} {S0 S : jSt} {pc : Nat} {lv : jLv} {st : jSk} {o : Option (Int × jSt)}
/-- a step that reads the heap -/
theorem j_rd {pc' : Nat} {st' : jSk} (hw : ∀ {p : Program} {e : Env} {R : Room} {s : State} {m : MethodId} {args : Array Value} {below : List Frame} {meth : Method} {c0 : Code} {H : Heap} {locs : List Loc} {cells slots : Nat} {Q : State → Prop} {ls : Array Slot}, jok G y cc nL rT p s m args meth c0 → jRep G S H → W p G.1 e R s m args below meth c0 H locs cells slots Q (F0 m pc' ls (st'.map jval)) → W p G.1 e R s m args below meth c0 H locs cells slots Q (F0 m pc ls (st.map jval)))
    (h : J G y cc nL rT d S0 pc' lv st' S o) : J G y cc nL rT d S0 pc lv st S o := fun hwf r Se ho =>
  let ⟨h1, h3⟩ := h hwf r Se ho
  ⟨h1, fun p e R s m args below meth c H locs ls ok a1 a2 a3 a4 a5 a6 a7 a8 a9 a10 => hw ok a8 (h3 p e R s m args below meth c H locs ls ok a1 a2 a3 a4 a5 a6 a7 a8 a9 a10)⟩
/-- a step that writes one place of a cell -/
theorem j_wr {pc' : Nat} {st' : jSk} {a : Int} {k : Nat} {z : Int} {t : Nat × Nat} {en : va_E} (ht : jty S a = t) (hk5 : t.1 ≤ 5) (hf : jfit t k z) (hen : ∀ v, v = S.2.2.2 a.toNat → en = jce G t (va_up v k z))
    (hw : ∀ {p : Program} {e : Env} {R : Room} {s : State} {m : MethodId} {args : Array Value} {below : List Frame} {meth : Method} {c0 : Code} {H : Heap} {locs : List Loc} {cells slots : Nat} {Q : State → Prop} {ls : Array Slot}, jok G y cc nL rT p s m args meth c0 → jRep G S H → va_S (jA G) s.heap H locs →
      (∀ (H1 : Heap) (locs1 : List Loc), va_P G.2.2.1 vwCl ((jwd G S).set (a.toNat - G.2.1) (a.toNat, en)) H1 → va_S (jA G) s.heap H1 locs1 → W p G.1 e R s m args below meth c0 H1 locs1 cells slots Q (F0 m pc' ls (st'.map jval))) → W p G.1 e R s m args below meth c0 H locs cells slots Q (F0 m pc ls (st.map jval)))
    (h : J G y cc nL rT d S0 pc' lv st' (jput S a k z) o) : J G y cc nL rT d S0 pc lv st S o := by
  intro hwf r Se ho
  obtain ⟨h1, h3⟩ := h (jput_wf hwf (by rw [ht]; exact hf)) r Se ho
  refine ⟨h1, fun p e R s m args below meth c H locs ls ok a1 a2 a3 a4 a5 a6 a7 a8 a9 a10 => hw ok a8 a9 fun H1 locs1 hP1 hS1 => W_size fun hsz => ?_⟩
  have hB : G.2.1 ≤ s.heap.size := ok.2.2.2.2.2.2.2.2.2.1
  have hin := a8.in (a := a) (by rw [ht]; exact hk5)
  have hge : S.1 ≤ H1.size := jsize_ge (S := S) hB hS1 (by rw [jwd_set hin.1 hin.2] at hP1; exact hP1)
  have hsz2 : H1.size = H.size := by rw [a8.1]; omega
  exact h3 p e R s m args below meth c H1 locs1 ls ok a1 a2 a3 a4 a5 a6 a7 (a8.put ht hk5 hf (hen _ rfl) hsz2 (jbelow hB a9 hS1) hP1) hS1 a10
theorem j_get {ci k idx t : Nat} {C : String} {T : u_T} {N : Nat} {a : Int} {f : Int → Option (Int × jSt)} (hc : vwCl[ci]? = some (C, T, N)) (hin : ∀ w ∈ u_ws C T N, w ∈ lw_g) (hk : k < N) (hN : jnO ci = N) (ht : jtag (jtyO ci k) = t) (hw : Cond.fieldLink y.cls idx (T k).1 (T k).2.1 (T k).2.2.1 ∈ lw_g) (hd : decode cc pc = .ok (.getfield idx, 3))
    (h : ∀ z : Int, jrg (jtyO ci k) z → J G y cc nL rT d S0 (pc + 3) lv ((t, z) :: st) S (f z)) : J G y cc nL rT d S0 pc lv ((2, a) :: st) S (fget S a ci k f) := by
  unfold fget
  refine j_guard fun hty => ?_
  intro hwf
  refine j_rd (st' := (t, jg S a k) :: st) (fun ok hR kk => ?_) (h (jg S a k) (by
    have h9 := hwf a.toNat k
    rw [show S.2.2.1 a.toNat = (0, ci) from hty] at h9
    exact h9)) hwf
  have hg := hR.get hty (Nat.zero_le _)
  refine va_get (D := G.2.2.1) (cl := vwCl) (tys := jtys G) (ws := jwd G S) (ci := ci) (C := C) (T := T) (N := N) ok.1 ok.2.1 ok.2.2.2.2.1 hin ok.2.2.2.1 ok.2.2.2.2.2.1.1 hR.2.2.2.1 _ hg hc k hk (ok.2.2.2.2.1 _ hw) (fun _ h9 => h9) (v := jval (t, jg S a k)) ?_ hd kk
  rw [jfl_get (by rw [hN]; exact hk), ht]
  rfl
theorem j_getr {ci k idx : Nat} {C : String} {T : u_T} {N : Nat} {a : Int} {f : Int → Option (Int × jSt)} (hc : vwCl[ci]? = some (C, T, N)) (hin : ∀ w ∈ u_ws C T N, w ∈ lw_g) (hk : k < N) (hN : jnO ci = N) (ht : jtag (jtyO ci k) = 3) (hw : Cond.fieldLink y.cls idx (T k).1 (T k).2.1 (T k).2.2.1 ∈ lw_g) (hd : decode cc pc = .ok (.getfield idx, 3))
    (h : ∀ z : Int, 0 ≤ z → J G y cc nL rT d S0 (pc + 3) lv ((2, z) :: st) S (f z)) : J G y cc nL rT d S0 pc lv ((2, a) :: st) S (fgetr S a ci k f) := by
  unfold fgetr
  refine j_guard fun hty => ?_
  refine j_rd (st' := (2, jg S a k) :: st) (fun ok hR kk => ?_) (h (jg S a k) hty.2)
  have hg := hR.get hty.1 (Nat.zero_le _)
  refine va_get (D := G.2.2.1) (cl := vwCl) (tys := jtys G) (ws := jwd G S) (ci := ci) (C := C) (T := T) (N := N) ok.1 ok.2.1 ok.2.2.2.2.1 hin ok.2.2.2.1 ok.2.2.2.2.2.1.1 hR.2.2.2.1 _ hg hc k hk (ok.2.2.2.2.1 _ hw) (fun _ h9 => h9) (v := jval (2, jg S a k)) ?_ hd kk
  rw [jfl_get (by rw [hN]; exact hk), ht, ← jval3r (by have := hty.2; omega)]
  rfl
theorem j_put {ci k idx t : Nat} {C : String} {T : u_T} {N : Nat} {a z : Int} {ty0 : Nat → FieldType} {ty : FieldType} {f : jSt → Option (Int × jSt)} (hc : vwCl[ci]? = some (C, T, N)) (hin : ∀ w ∈ u_ws C T N, w ∈ lw_g) (hk : k < N) (hN : jnO ci = N) (hty0 : ∀ k, k < N → parseFieldDescriptor (T k).2.2.1 = some (ty0 k)) (hnm : ∀ a, a < N → ∀ b, b < N → a ≠ b → (T a).2.1 ≠ (T b).2.1) (ht : jtag (jtyO ci k) = t) (hfin : (T k).2.2.2 = false) (hty : parseFieldDescriptor (T k).2.2.1 = some ty)
    (hn : narrow ty (jval (t, z)) = jval (t, z)) (hfit : fits ty (jval (t, z)) = true) (hrg : jrg (jtyO ci k) z) (hw : Cond.fieldLink y.cls idx (T k).1 (T k).2.1 (T k).2.2.1 ∈ lw_g) (hd : decode cc pc = .ok (.putfield idx, 3))
    (h : ∀ S1 : jSt, J G y cc nL rT d S0 (pc + 3) lv st S1 (f S1)) : J G y cc nL rT d S0 pc lv ((t, z) :: (2, a) :: st) S (fput S a ci k z f) := by
  unfold fput
  refine j_guard fun hq => ?_
  refine j_wr (k := k) (z := z) (t := (0, ci)) (en := .inr (ci, (jfl ci (S.2.2.2 a.toNat)).set k (jval (t, z)))) hq (Nat.zero_le _) hrg (fun v hv => ?_) (fun ok hR hS kk => ?_) (h _)
  · rw [← hv, ← ht, jfl_set (by rw [hN]; exact hk)]
    rfl
  · have hg := hR.get hq (Nat.zero_le _)
    exact va_put (D := G.2.2.1) (cl := vwCl) (tys := jtys G) (ws := jwd G S) (ci := ci) (C := C) (T := T) (N := N) (ty := ty) ok.1 ok.2.1 ok.2.2.2.2.1 hin ty0 hty0 hnm ok.2.2.2.1 ok.2.2.2.2.2.1.1 hR.2.2.2.1 jwd_D hS _ hg hc k hk (ok.2.2.2.2.1 _ hw) (fun _ h9 => h9) hfin hty hn hfit (by rw [jfl_len, hN]; exact hk) hd (fun H1 locs1 hP1 _ hS1 => kk H1 locs1 hP1 hS1)
theorem j_putF {ci k idx t t2 : Nat} {C : String} {T : u_T} {N : Nat} {a z : Int} {ty0 : Nat → FieldType} {ty : FieldType} {f : jSt → Option (Int × jSt)} (hc : vwCl[ci]? = some (C, T, N)) (hin : ∀ w ∈ u_ws C T N, w ∈ lw_g) (hk : k < N) (hN : jnO ci = N) (hty0 : ∀ k, k < N → parseFieldDescriptor (T k).2.2.1 = some (ty0 k)) (hnm : ∀ a, a < N → ∀ b, b < N → a ≠ b → (T a).2.1 ≠ (T b).2.1) (ht : jtag (jtyO ci k) = t) (hfin : (T k).2.2.2 = true) (hin2 : y.name = "<init>") (hdecl : (T k).1 = y.cls) (hty : parseFieldDescriptor (T k).2.2.1 = some ty)
    (ht2 : jval (t2, z) = jval (t, z)) (hn : narrow ty (jval (t2, z)) = jval (t2, z)) (hfit : fits ty (jval (t2, z)) = true) (hrg : jrg (jtyO ci k) z) (hw : Cond.fieldLink y.cls idx (T k).1 (T k).2.1 (T k).2.2.1 ∈ lw_g) (hd : decode cc pc = .ok (.putfield idx, 3))
    (h : ∀ S1 : jSt, J G y cc nL rT d S0 (pc + 3) lv st S1 (f S1)) : J G y cc nL rT d S0 pc lv ((t2, z) :: (2, a) :: st) S (fput S a ci k z f) := by
  unfold fput
  refine j_guard fun hq => ?_
  refine j_wr (k := k) (z := z) (t := (0, ci)) (en := .inr (ci, (jfl ci (S.2.2.2 a.toNat)).set k (jval (t2, z)))) hq (Nat.zero_le _) hrg (fun v hv => ?_) (fun ok hR hS kk => ?_) (h _)
  · rw [← hv, ht2, ← ht, jfl_set (by rw [hN]; exact hk)]
    rfl
  · have hg := hR.get hq (Nat.zero_le _)
    exact va_putF (D := G.2.2.1) (cl := vwCl) (tys := jtys G) (ws := jwd G S) (ci := ci) (C := C) (T := T) (N := N) (ty := ty) ok.1 ok.2.1 ok.2.2.2.2.1 hin ty0 hty0 hnm ok.2.2.2.1 ok.2.2.2.2.2.1.1 hR.2.2.2.1 jwd_D hS _ hg hc k hk (ok.2.2.2.2.1 _ hw) (fun _ h9 => h9) hfin (ok.2.2.2.2.2.2.2.2.1 hin2) hdecl hty hn hfit (by rw [jfl_len, hN]; exact hk) hd (fun H1 locs1 hP1 _ hS1 => kk H1 locs1 hP1 hS1)
theorem jpair {t : Nat × Nat} {k : Nat} (h : t.1 = k) : t = (k, t.2) := by rw [← h]
theorem j_iaload {a i : Int} {f : Int → Option (Int × jSt)} (hi : R32 i) (hd : decode cc pc = .ok (.iaload, 1)) (h : ∀ z : Int, R32 z → J G y cc nL rT d S0 (pc + 1) lv ((0, z) :: st) S (f z)) : J G y cc nL rT d S0 pc lv ((0, i) :: (2, a) :: st) S (fald S a i 1 f) := by
  unfold fald
  refine j_guard fun hq => ?_
  have hp := jpair hq.1
  intro hwf
  refine j_rd (st' := (0, jg S a i.toNat) :: st) (fun ok hR kk => ?_) (h (jg S a i.toNat) (by
    have h9 := hwf a.toNat i.toNat
    rw [show S.2.2.1 a.toNat = (1, (jty S a).2) from hp] at h9
    exact h9)) hwf
  have hg := hR.get hp (Nat.le_of_ble_eq_true rfl)
  refine va_iald (D := G.2.2.1) (cl := vwCl) (tys := jtys G) (ws := jwd G S) ok.1 ok.2.1 ok.2.2.2.2.2.1.1 hR.2.2.2.1 _ 0 hg rfl (jin_of hi hq.2.1 hq.2.2) hd ?_
  rw [jclamp_of hi hq.2.1]
  exact kk
end JH
