-- the functional heap: how many cells, how many slots, each cell's kind, what it holds
abbrev jSt : Type := Nat × Nat × (Nat → Nat × Nat) × (Nat → Nat → Int)
-- what doesn't change: the launch, where the heap begins, the tables, the array classes, the heap ahead of it
abbrev jG : Type := Launch × Nat × va_G × (Nat → ClassId) × Heap × Nat × Nat × Nat × Nat × (Nat → Int32)
def jtyO (ci : Nat) : Nat → FieldType := match ci with
  | 0 => tyX0 | 1 => tyX1 | 2 => tyX2 | 3 => tyX3 | 4 => tyX4 | 5 => tyX5 | 6 => tyX6 | 7 => tyX7 | 8 => tyX8 | 9 => tyX9 | 10 => tyX10 | 11 => tyX11 | _ => tyX12
def jnO (ci : Nat) : Nat := match ci with
  | 0 => 9 | 1 => 9 | 2 => 3 | 3 => 1 | 4 => 11 | 5 => 4 | 6 => 5 | 7 => 1 | 8 => 3 | 9 => 6 | 10 => 16 | 11 => 11 | _ => 31
def jtag (t : FieldType) : Nat := match t with
  | .long => 1 | .object _ => 3 | .array _ => 3 | _ => 0
def jrg (t : FieldType) (z : Int) : Prop := match t with
  | .long => R64 z | .object _ => True | .array _ => True | .boolean => z = 0 ∨ z = 1 | _ => R32 z
def jfl (ci : Nat) (v : Nat → Int) : List Value := (List.range (jnO ci)).map fun k => jval (jtag (jtyO ci k), v k)
def jopt (z : Int) : Option Nat := if z < 0 then none else some z.toNat
def jce (G : jG) (t : Nat × Nat) (v : Nat → Int) : va_E := match t with
  | (0, ci) => .inr (ci, jfl ci v)
  | (1, N) => .inl (G.2.2.2.1 1, N, .inl fun j => Int32.ofInt (v j))
  | (2, N) => .inl (G.2.2.2.1 2, N, .inr (.inl fun j => Int64.ofInt (v j)))
  | (3, N) => .inl (G.2.2.2.1 3, N, .inl fun j => Int32.ofInt (v j))
  | (k, N) => .inl (G.2.2.2.1 k, N, .inr (.inr (.inr (.inr fun j => jopt (v j)))))
def jcell (G : jG) (S : jSt) (a : Nat) : va_E := jce G (S.2.2.1 a) (S.2.2.2 a)
def jfit (t : Nat × Nat) (j : Nat) (z : Int) : Prop := match t with
  | (0, ci) => jrg (jtyO ci j) z
  | (1, _) => R32 z
  | (2, _) => R64 z
  | (3, _) => z = 0 ∨ z = 1
  | _ => True
abbrev jtys (G : jG) : List (ClassId × FieldType) := [(G.2.2.2.1 1, .int), (G.2.2.2.1 2, .long), (G.2.2.2.1 3, .boolean), (G.2.2.2.1 4, .object RX1), (G.2.2.2.1 5, .object RX6)]
def jwd (G : jG) (S : jSt) : va_W := va_pl (List.range' G.2.1 (S.1 - G.2.1)) (jcell G S)
def jWf (S : jSt) : Prop := ∀ a j : Nat, jfit (S.2.2.1 a) j (S.2.2.2 a j)
def jRep (G : jG) (S : jSt) (H : Heap) : Prop := H.size = S.1 ∧ G.2.1 ≤ S.1 ∧ (∀ q : Nat, q < G.2.1 → H[q]? = G.2.2.2.2.1[q]?) ∧ va_P G.2.2.1 vwCl (jwd G S) H ∧ (∀ a : Nat, (S.2.2.1 a).1 ≤ 5 → G.2.1 ≤ a ∧ a < S.1) ∧ jWf S
def jA (G : jG) : Nat → Prop := fun q => G.2.1 ≤ q
-- links among nest mates, which the words of a contract can't carry
def jNm : List (String × Nat × MethodName × String) := [(RX11, 9, yX10_init, RX11), (RX10, 45, yX7_init, RX11), (RX10, 52, yX3_init, RX11), (RX11, 18, yX1_init, RX11), (RX8, 17, yX1_init, RX11), (RX11, 41, yX9_init, RX11), (RX10, 84, yX11_within, RX11), (RX9, 73, yX11_within, RX11), (RX4, 88, yX11_within, RX11), (RX5, 68, yX11_wantAt, RX11), (RX2, 46, yX11_within, RX11), (RX5, 110, yX11_within, RX11)]
def jNf : List (String × Nat × String × String × String × String) := [(RX2, 31, RX6, "code", "[I", RX11), (RX2, 40, RX6, "lawFrom", "[I", RX11), (RX2, 26, RX6, "lawTo", "[I", RX11)]
def jNs (U : State) : Prop := (∀ q ∈ jNm, va_Nw (.methodLinkNest q.1 q.2.1 q.2.2.1 q.2.2.2) U) ∧ (∀ q ∈ jNf, va_Nw (.fieldLinkNest q.1 q.2.1 q.2.2.1 q.2.2.2.1 q.2.2.2.2.1 q.2.2.2.2.2) U) ∧ va_AO RX1 U ∧ va_AO RX6 U ∧ va_Nw (.castable "[I" "java/lang/Cloneable") U
-- the one text constant, its bytes, and the statics that its methods look at
def jTx : String := "bids reserve warms bidder sell carry burn buy lot want week worth weight floor purse who has of by for then else end if not even worths or and "
def jBy : List Int32 := [98, 105, 100, 115, 32, 114, 101, 115, 101, 114, 118, 101, 32, 119, 97, 114, 109, 115, 32, 98, 105, 100, 100, 101, 114, 32, 115, 101, 108, 108, 32, 99, 97, 114, 114, 121, 32, 98, 117, 114, 110, 32, 98, 117, 121, 32, 108, 111, 116, 32, 119, 97, 110, 116, 32, 119, 101, 101, 107, 32, 119, 111, 114, 116, 104, 32, 119, 101, 105, 103, 104, 116, 32, 102, 108, 111, 111, 114, 32, 112, 117, 114, 115, 101, 32, 119, 104, 111, 32, 104, 97, 115, 32, 111, 102, 32, 98, 121, 32, 102, 111, 114, 32, 116, 104, 101, 110, 32, 101, 108, 115, 101, 32, 101, 110, 100, 32, 105, 102, 32, 110, 111, 116, 32, 101, 118, 101, 110, 32, 119, 111, 114, 116, 104, 115, 32, 111, 114, 32, 97, 110, 100, 32]
def jStr (G : jG) (U : State) : Prop := vk_R RX9 58 jTx G.2.2.2.2.2.1 U ∧ vk_S 1 [143] [jBy] (fun _ => G.2.2.2.2.2.1) (fun _ => G.2.2.2.2.2.2.1) (jA G) U G.2.2.2.2.1 ∧ va_Z "java/lang/String" "COMPACT_STRINGS" "Z" (.int 1) (jA G) U G.2.2.2.2.1 ∧ va_Zq "jdk/internal/util/Preconditions" "SIOOBE_FORMATTER" "Ljava/util/function/BiFunction;" (jA G) U G.2.2.2.2.1 ∧ va_X G.2.2.2.2.2.2.2.1 G.2.2.2.2.2.2.2.2.1 G.2.2.2.2.2.2.2.2.2 U G.2.2.2.2.1 ∧ G.2.2.2.2.2.2.2.1 < G.2.1
theorem jZq_moved {C n d : String} {A : Nat → Prop} {u U : State} {H : Heap} (hvm : u.vm.Alike U.vm) (h : va_Zq C n d A u H) : va_Zq C n d A U H := h.elim (fun h => Or.inl (va_Z.moved hvm h)) (fun ⟨t, h⟩ => Or.inr ⟨t, va_Z.moved hvm h⟩)
theorem jStr_warm {G : jG} {s U : State} (hW : s.WarmedH U.vm) (h : jStr G s) : jStr G U := ⟨h.1.warm hW, h.2.1.moved hW.alike, va_Z.moved hW.alike h.2.2.1, jZq_moved hW.alike h.2.2.2.1, va_X.moved hW.alike h.2.2.2.2.1, h.2.2.2.2.2⟩
theorem jStr_same {G : jG} {s U : State} (hv : U.vm = s.vm) (h : jStr G s) : jStr G U := ⟨h.1.same hv, h.2.1.moved (hv ▸ Vm.Alike.refl s.vm), va_Z.moved (hv ▸ Vm.Alike.refl s.vm) h.2.2.1, jZq_moved (hv ▸ Vm.Alike.refl s.vm) h.2.2.2.1, va_X.moved (hv ▸ Vm.Alike.refl s.vm) h.2.2.2.2.1, h.2.2.2.2.2⟩
def jK (G : jG) (U : State) : Prop := va_K G.2.2.1 vwCl (jtys G) U ∧ jNs U ∧ jStr G U
theorem jNs_warm {s U : State} (hW : s.WarmedH U.vm) (h : jNs s) : jNs U := ⟨fun q hq => (h.1 q hq).warmM hW, fun q hq => (h.2.1 q hq).warmF hW, va_AO.moved hW.alike h.2.2.1, va_AO.moved hW.alike h.2.2.2.1, h.2.2.2.2.warmC hW⟩
theorem jNs_same {s U : State} (hv : s.vm = U.vm) (h : jNs s) : jNs U := ⟨fun q hq => (h.1 q hq).same rfl hv, fun q hq => (h.2.1 q hq).same rfl hv, va_AO.moved (hv ▸ Vm.Alike.refl s.vm) h.2.2.1, va_AO.moved (hv ▸ Vm.Alike.refl s.vm) h.2.2.2.1, h.2.2.2.2.same rfl hv⟩
theorem jK_warm {G : jG} {s U : State} (hW : s.WarmedH U.vm) (h : jK G s) : jK G U := ⟨va_K.moved hW.alike h.1, jNs_warm hW h.2.1, jStr_warm hW h.2.2⟩
theorem jK_calling {G : jG} {U : State} {g : JFrame} {mk : MethodId} {a : Array Value} (h : jK G U) : jK G (U.calling g mk a) := ⟨va_K.moved (u := U) (U := U.calling g mk a) (Vm.Alike.refl U.vm) h.1, jNs_same (s := U) rfl h.2.1, jStr_same (s := U) rfl h.2.2⟩
theorem jpl_get {B n a : Nat} {f : Nat → va_E} (h1 : B ≤ a) (h2 : a < n) : (va_pl (List.range' B (n - B)) f)[a - B]? = some (a, f a) := by
  unfold va_pl
  rw [List.getElem?_map, List.getElem?_range' (by omega)]
  simp [show B + (a - B) = a by omega]
theorem jpl_at {B m k : Nat} {q : Nat × va_E} {f : Nat → va_E} (h : (va_pl (List.range' B m) f)[k]? = some q) : k < m ∧ q.1 = B + k := by
  unfold va_pl at h
  rw [List.getElem?_map] at h
  have hk : k < m := by
    rcases Nat.lt_or_ge k m with h1 | h1
    · exact h1
    · rw [List.getElem?_eq_none (by simpa using h1)] at h
      cases h
  rw [List.getElem?_range' hk] at h
  simp at h
  exact ⟨hk, by rw [← h]⟩
theorem jpl_D {G : jG} {m : Nat} {f : Nat → va_E} : va_D (jA G) (va_pl (List.range' G.2.1 m) f) := by
  refine ⟨fun i j p q hi hj h => ?_, fun k q hk => ?_⟩
  · have h1 := (jpl_at hi).2
    have h2 := (jpl_at hj).2
    omega
  · have h1 := (jpl_at hk).2
    show G.2.1 ≤ q.1
    omega
theorem jwd_D {G : jG} {S : jSt} : va_D (jA G) (jwd G S) := jpl_D
theorem jwd_get {G : jG} {S : jSt} {a : Nat} (h1 : G.2.1 ≤ a) (h2 : a < S.1) : (jwd G S)[a - G.2.1]? = some (a, jcell G S a) := jpl_get h1 h2
theorem jwd_set {G : jG} {S : jSt} {a : Nat} {e : va_E} (h1 : G.2.1 ≤ a) (h2 : a < S.1) : (jwd G S).set (a - G.2.1) (a, e) = va_pl (List.range' G.2.1 (S.1 - G.2.1)) (va_up (jcell G S) a e) := by
  have h := va_pl_set (X := []) (A := jA G) (L := List.range' G.2.1 (S.1 - G.2.1)) (f := jcell G S) (a := a) (k := a - G.2.1) (e := e) (by simpa using jpl_D) (by rw [List.mem_range'_1]; omega) (by simpa using jpl_get h1 h2)
  unfold jwd
  simpa using h
def jty (S : jSt) (a : Int) : Nat × Nat := S.2.2.1 a.toNat
def jg (S : jSt) (a : Int) (k : Nat) : Int := S.2.2.2 a.toNat k
def jput (S : jSt) (a : Int) (k : Nat) (z : Int) : jSt := (S.1, S.2.1, S.2.2.1, va_up S.2.2.2 a.toNat (va_up (S.2.2.2 a.toNat) k z))
theorem jRep.in {G : jG} {S : jSt} {H : Heap} (h : jRep G S H) {a : Int} (hk : (jty S a).1 ≤ 5) : G.2.1 ≤ a.toNat ∧ a.toNat < S.1 := h.2.2.2.2.1 _ hk
theorem jRep.get {G : jG} {S : jSt} {H : Heap} (h : jRep G S H) {a : Int} {t : Nat × Nat} (ht : jty S a = t) (hk : t.1 ≤ 5) : (jwd G S)[a.toNat - G.2.1]? = some (a.toNat, jce G t (S.2.2.2 a.toNat)) := by
  have h1 := h.in (a := a) (by rw [ht]; exact hk)
  rw [jwd_get h1.1 h1.2]
  unfold jcell
  rw [show S.2.2.1 a.toNat = t from ht]
/-- a cell is written: the heap holds the new picture -/
theorem jRep.put {G : jG} {S : jSt} {H H1 : Heap} (h : jRep G S H) {a : Int} {k : Nat} {z : Int} {t : Nat × Nat} (ht : jty S a = t) (hk : t.1 ≤ 5) (hf : jfit t k z) {e : va_E} (he : e = jce G t (va_up (S.2.2.2 a.toNat) k z))
    (hs : H1.size = H.size) (hB : ∀ q : Nat, q < G.2.1 → H1[q]? = H[q]?) (hP : va_P G.2.2.1 vwCl ((jwd G S).set (a.toNat - G.2.1) (a.toNat, e)) H1) : jRep G (jput S a k z) H1 := by
  have h1 := h.in (a := a) (by rw [ht]; exact hk)
  rw [jwd_set h1.1 h1.2] at hP
  obtain ⟨q1, q2, q3, q4, q5, q6⟩ := h
  refine ⟨hs.trans q1, q2, fun q hq => (hB q hq).trans (q3 q hq), ?_, q5, fun b j => ?_⟩
  · show va_P G.2.2.1 vwCl (va_pl _ (jcell G (jput S a k z))) H1
    rw [← va_pl_congr (f := va_up (jcell G S) a.toNat e)]
    · exact hP
    · intro b
      unfold jcell jput va_up
      by_cases hb : b = a.toNat
      · rw [if_pos hb, he, hb]
        simp only [if_pos]
        rw [show S.2.2.1 a.toNat = t from ht]
        rfl
      · simp only [if_neg hb]
  · show jfit (S.2.2.1 b) j (va_up S.2.2.2 a.toNat (va_up (S.2.2.2 a.toNat) k z) b j)
    unfold va_up
    by_cases hb : b = a.toNat
    · simp only [if_pos hb]
      by_cases hj : j = k
      · rw [if_pos hj, hb, hj, show S.2.2.1 a.toNat = t from ht]
        exact hf
      · rw [if_neg hj, hb]
        exact q6 a.toNat j
    · simp only [if_neg hb]
      exact q6 b j
theorem jRep.fit {G : jG} {S : jSt} {H : Heap} (h : jRep G S H) {a : Int} {t : Nat × Nat} (ht : jty S a = t) (j : Nat) : jfit t j (jg S a j) := by
  rw [← ht]
  exact h.2.2.2.2.2 a.toNat j
theorem jfl_get {ci k : Nat} {v : Nat → Int} (hk : k < jnO ci) : (jfl ci v)[k]? = some (jval (jtag (jtyO ci k), v k)) := by
  unfold jfl
  rw [List.getElem?_map, List.getElem?_range hk]
  rfl
theorem jfl_len (ci : Nat) (v : Nat → Int) : (jfl ci v).length = jnO ci := by
  unfold jfl
  rw [List.length_map, List.length_range]
theorem jfl_set {ci k : Nat} {v : Nat → Int} {z : Int} (hk : k < jnO ci) : (jfl ci v).set k (jval (jtag (jtyO ci k), z)) = jfl ci (va_up v k z) := by
  apply List.ext_getElem?
  intro j
  by_cases hj : j = k
  · subst hj
    rw [List.getElem?_set_self (by rw [jfl_len]; exact hk), jfl_get hk, va_up_self]
  · rw [List.getElem?_set_ne (Ne.symm hj)]
    rcases Nat.lt_or_ge j (jnO ci) with h | h
    · rw [jfl_get h, jfl_get h, va_up_ne _ _ hj]
    · rw [List.getElem?_eq_none (by rw [jfl_len]; exact h), List.getElem?_eq_none (by rw [jfl_len]; exact h)]
