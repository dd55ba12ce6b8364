/-! THE CLAIM OUT OF ONE WALK OF THE LAW'S BODY. Your part is whole_start (and what it stands on); all else here is the same for every law, but numbers. -/
def R_law : String := "HouseClearedUpLaw"
def lw_P (b : Addr) (xs : List Int32) (args : Array Value) (s : State) : Prop := args = #[.ref b] ∧ s.IntsAt b xs ∧ xs.length ≤ 3072 ∧ (Jvm.Cond.and given_1 narrow_1).before args s = true
def lw_Q (_ : Array Value) (s : State) (o : Outcome) (t : State) : Prop := o = .returned (some (.int 1)) ∧ Framed s o t [] 600000 7302250
def lw_Z (below : List Frame) (a : Array Value) (s : State) : State → Prop := fun t => ∃ o, t.status = .running ∧ Ended t below o ∧ lw_Q a s o t
/-- the law's own end, with 1 on the stack, nothing written that was there before, its room as the claim has it -/
theorem lw_ret {p : Program} {l : Launch} {e : Env} {s : State} {m : MethodId} {below : List Frame} {meth : Method} {c : Code} {b : Nat} (hx : p.tables.exec = Jvm.exec) (hb : c.code = code) (hr : meth.sig.returnType = ret) (hlocks : meth.locks = false) {pc : Nat} {H : Heap} {ls : Array Slot} (hdg : decode code pc = .ok (.ireturn, 1)) : W p l e room_1 s m #[Value.ref b] below meth c H [] 600000 7302250 (lw_Z below #[Value.ref b] s) (F0 m pc ls [.int 1]) := by
  intro T hT X
  obtain ⟨fs, hret, hrun, hended, hW, hframe⟩ := X.leave (v := some (.int 1)) (hlocks := hlocks) (fun h => by rw [hr] at h; cases h)
  have hmeth' : T.vm.method? m = some meth := X.method'
  refine ⟨T.setFrames fs, ?_, .returned (some (.int 1)), hrun, hended, rfl, ⟨_, rfl⟩, hW, hframe⟩
  jvm_step X.here [X.here.top, hx, hb, hdg, hmeth', hr, ret, narrow_b1]
  (try refine ⟨rfl, ?_⟩); (try refine ⟨rfl, ?_⟩)
  first | (intro acts; rw [hret _ acts rfl rfl rfl]) | rw [hret _ _ rfl rfl rfl]
  exact Steps.refl _
/-- what holds at the law's entry: the machine, the code, the tables' words (any of lw_tbl by 'hts w (by decide +kernel)'), the script of L ints xs at the cell b, what the Statement gives of the start (any of its parts by flat_of_before) -/
def lw_At (p : Program) (s : State) (m : MethodId) (meth : Method) (c : Code) (b L : Nat) (xs : Nat → Int32) : Prop :=
  p.tables.exec = Jvm.exec ∧ c.code = code ∧ meth.sig.returnType = ret ∧ c.maxLocals = 4 ∧ s.vm.findClass R_law = some m.cls ∧ (∀ w ∈ lw_tbl, w.before #[Value.ref b] s = true) ∧ va_X b L xs s s.heap ∧ b < s.heap.size ∧ meth.locks = false ∧ (Jvm.Cond.and given_1 narrow_1).before #[Value.ref b] s = true
-- the start: an empty functional heap
def jS0 (B : Nat) : jSt := (B, 0, fun _ => (9, 0), fun _ _ => 0)
theorem jS0_wf (B : Nat) : jWf (jS0 B) := fun _ _ => trivial
theorem W_mono {p : Program} {l : Launch} {e : Env} {R : Room} {s : State} {m : MethodId} {args : Array Value} {below : List Frame} {meth : Method} {c : Code} {H : Heap} {locs : List Loc} {cells slots : Nat} {Q Q' : State → Prop} {g : JFrame} (h : ∀ t, Q t → Q' t) (k : W p l e R s m args below meth c H locs cells slots Q g) : W p l e R s m args below meth c H locs cells slots Q' g := fun T hT X =>
  let ⟨t, a, b⟩ := k T hT X
  ⟨t, a, h t b⟩
theorem jarr_of {args : Array Value} {s : State} {ty : FieldType} (h : (Cond.arrayClass ty).before args s = true) : ∃ c : ClassId, ArrOfT s c ty ∧ s.vm.findClass ("[" ++ ty.toString) = some c := by
  obtain ⟨c, k, comp, h1, h2, h3⟩ := Cond.arrayClass_spec h
  exact ⟨c, fun n z => ⟨(fun q hq => by cases hq), k, h2, comp, h3⟩, h1⟩
theorem jarr_ofR {args : Array Value} {s : State} {C : String} (h : (Cond.arrayOver (.object C)).before args s = true) : ∃ c : ClassId, ArrOfT s c (.object C) ∧ va_RA s c (.object C) := by
  obtain ⟨comp, c, k, h1, h2, h3, h4, h5⟩ := Cond.arrayOver_spec h
  exact ⟨c, fun n z => ⟨(fun q hq => by cases hq), k, h3, comp, h4⟩, k, comp, h3, h4, h1, h5⟩
set_option maxHeartbeats 4000000 in
set_option maxRecDepth 100000 in
/-- what holds at the law's entry, in my own words -/
theorem jstart {p : Program} {s : State} {m : MethodId} {meth : Method} {c : Code} (l : Launch) {b L : Nat} {xs : Nat → Int32} (C0 : lw_At p s m meth c b L xs) : ∃ (D : va_G) (cA : Nat → ClassId) (k v : Nat), jK (l, s.heap.size, D, cA, s.heap, k, v, b, L, xs) s := by
  obtain ⟨hx, hb, hr, hml, hown, hts, hX, hbl, hlocks, hgv⟩ := id C0
  have htg : ∀ w ∈ lw_g, w.before #[Value.ref b] s = true := fun w hw => hts w (lw_g_in hw)
  obtain ⟨c0, iS0, hKn0⟩ := u_known (C := RX0) (T := TX0) (N := 9) (n := 9) htg in_X0 (hts (.instantiable RX0 9) (by decide +kernel))
  obtain ⟨c1, iS1, hKn1⟩ := u_known (C := RX1) (T := TX1) (N := 9) (n := 9) htg in_X1 (hts (.instantiable RX1 9) (by decide +kernel))
  obtain ⟨c2, iS2, hKn2⟩ := u_known (C := RX2) (T := TX2) (N := 3) (n := 3) htg in_X2 (hts (.instantiable RX2 3) (by decide +kernel))
  obtain ⟨c3, iS3, hKn3⟩ := u_known (C := RX3) (T := TX3) (N := 1) (n := 1) htg in_X3 (hts (.instantiable RX3 1) (by decide +kernel))
  obtain ⟨c4, iS4, hKn4⟩ := u_known (C := RX4) (T := TX4) (N := 11) (n := 11) htg in_X4 (hts (.instantiable RX4 11) (by decide +kernel))
  obtain ⟨c5, iS5, hKn5⟩ := u_known (C := RX5) (T := TX5) (N := 4) (n := 4) htg in_X5 (hts (.instantiable RX5 4) (by decide +kernel))
  obtain ⟨c6, iS6, hKn6⟩ := u_known (C := RX6) (T := TX6) (N := 5) (n := 5) htg in_X6 (hts (.instantiable RX6 5) (by decide +kernel))
  obtain ⟨c7, iS7, hKn7⟩ := u_known (C := RX7) (T := TX7) (N := 1) (n := 1) htg in_X7 (hts (.instantiable RX7 1) (by decide +kernel))
  obtain ⟨c8, iS8, hKn8⟩ := u_known (C := RX8) (T := TX8) (N := 3) (n := 3) htg in_X8 (hts (.instantiable RX8 3) (by decide +kernel))
  obtain ⟨c9, iS9, hKn9⟩ := u_known (C := RX9) (T := TX9) (N := 6) (n := 6) htg in_X9 (hts (.instantiable RX9 6) (by decide +kernel))
  obtain ⟨c10, iS10, hKn10⟩ := u_known (C := RX10) (T := TX10) (N := 16) (n := 16) htg in_X10 (hts (.instantiable RX10 16) (by decide +kernel))
  obtain ⟨c11, iS11, hKn11⟩ := u_known (C := RX11) (T := TX11) (N := 11) (n := 11) htg in_X11 (hts (.instantiable RX11 11) (by decide +kernel))
  obtain ⟨c12, iS12, hKn12⟩ := u_known (C := RX12) (T := TX12) (N := 31) (n := 31) htg in_X12 (hts (.instantiable RX12 31) (by decide +kernel))
  obtain ⟨dC, dI, hKc⟩ : ∃ (dC : Nat → ClassId) (dI : Nat → Nat → Nat), ∀ (k : Nat) (q : vw_C), vwCl[k]? = some q → u_Kn s q.1 q.2.1 q.2.2 (dC k) (dI k) := by
    refine ⟨fun k => match k with | 0 => c0 | 1 => c1 | 2 => c2 | 3 => c3 | 4 => c4 | 5 => c5 | 6 => c6 | 7 => c7 | 8 => c8 | 9 => c9 | 10 => c10 | 11 => c11 | _ => c12, fun k => match k with | 0 => iS0 | 1 => iS1 | 2 => iS2 | 3 => iS3 | 4 => iS4 | 5 => iS5 | 6 => iS6 | 7 => iS7 | 8 => iS8 | 9 => iS9 | 10 => iS10 | 11 => iS11 | _ => iS12, ?_⟩
    intro k q hq
    match k, hq with
    | 0, hq => cases hq; exact hKn0
    | 1, hq => cases hq; exact hKn1
    | 2, hq => cases hq; exact hKn2
    | 3, hq => cases hq; exact hKn3
    | 4, hq => cases hq; exact hKn4
    | 5, hq => cases hq; exact hKn5
    | 6, hq => cases hq; exact hKn6
    | 7, hq => cases hq; exact hKn7
    | 8, hq => cases hq; exact hKn8
    | 9, hq => cases hq; exact hKn9
    | 10, hq => cases hq; exact hKn10
    | 11, hq => cases hq; exact hKn11
    | 12, hq => cases hq; exact hKn12
    | k + 13, hq => simp [vwCl] at hq
  obtain ⟨a1, ha1, hb1⟩ := jarr_of (hts (.arrayClass .int) (by decide +kernel))
  obtain ⟨a2, ha2, hb2⟩ := jarr_of (hts (.arrayClass .long) (by decide +kernel))
  obtain ⟨a3, ha3, hb3⟩ := jarr_of (hts (.arrayClass .boolean) (by decide +kernel))
  have ho1 : (Cond.arrayOver (.object RX1)).before #[Value.ref b] s = true := hts (.arrayOver (.object RX1)) (by decide +kernel)
  have ho6 : (Cond.arrayOver (.object RX6)).before #[Value.ref b] s = true := hts (.arrayOver (.object RX6)) (by decide +kernel)
  obtain ⟨a4, ha4, hb4⟩ := jarr_ofR ho1
  obtain ⟨a5, ha5, hb5⟩ := jarr_ofR ho6
  have hs := flat_of_before _ hgv
  have hA : ∀ a : Nat, a < s.heap.size → ¬ (fun q : Nat => s.heap.size ≤ q) a := fun a ha h => absurd ha (Nat.not_lt.mpr h)
  obtain ⟨adK, adV, hvs, hev⟩ := vk_Sof (N := 1) (tm := fun _ => Term.string RX9 58) (len := [143]) (byt := [jBy]) (A := fun q : Nat => s.heap.size ≤ q) (args := #[Value.ref b]) (s := s) (fun i hi => by rw [show i = 0 by omega]; decide)
    (fun i hi => hs _ (by decide +kernel)) (fun i hi => hs _ (by decide +kernel)) (fun i hi => hs _ (by decide +kernel)) (fun i hi => by rw [show i = 0 by omega]; exact hs _ (by decide +kernel))
    (fun i hi => by
      rw [show i = 0 by omega]
      intro j hj
      have key : ∀ j, j < 143 → Cond.eq (.elem (.field (Term.string RX9 58) "java/lang/String" "value" "[B") (.int (Int32.ofNat j))) (.int (jBy.getD j 0)) ∈ flatC (Jvm.Cond.and given_1 narrow_1) := by decide +kernel
      exact hs _ (key j hj)) (fun i j hi hj hij => absurd (show i = j by omega) hij) hA
  have hvk : vk_S 1 [143] [jBy] (fun _ => adK 0) (fun _ => adV 0) (fun q : Nat => s.heap.size ≤ q) s s.heap := ⟨fun i hi => by
    have h9 := hvs.1 0 (by decide)
    rw [show i = 0 by omega]
    exact h9, fun i j hi hj _ => by omega⟩
  have hstr : vk_R RX9 58 jTx (adK 0) s := vk_R.of (A := #[Value.ref b]) (hts (.stringRef RX9 58 jTx) (by decide +kernel)) (hev 0 (by decide))
  have hcs : va_Z "java/lang/String" "COMPACT_STRINGS" "Z" (.int 1) (fun q : Nat => s.heap.size ≤ q) s s.heap := va_Zof (hts (.laysStatic "java/lang/String" "COMPACT_STRINGS" "Z") (by decide +kernel)) (hts (.initialized "java/lang/String") (by decide +kernel)) (va_eqt (hs _ (by decide +kernel))) hA
  have hcq : va_Zq "jdk/internal/util/Preconditions" "SIOOBE_FORMATTER" "Ljava/util/function/BiFunction;" (fun q : Nat => s.heap.size ≤ q) s s.heap := va_Zqof (hts (.laysStatic "jdk/internal/util/Preconditions" "SIOOBE_FORMATTER" "Ljava/util/function/BiFunction;") (by decide +kernel)) (hts (.initialized "jdk/internal/util/Preconditions") (by decide +kernel)) (hs _ (by decide +kernel)) hA
  refine ⟨(dC, dI), fun k => match k with | 1 => a1 | 2 => a2 | 3 => a3 | 4 => a4 | _ => a5, adK 0, adV 0, ⟨hKc, fun k q hq => ?_⟩, ⟨fun q hq => ?_, fun q hq => ?_, va_AO.of ho1, va_AO.of ho6, va_Nw.of rfl (hts (.castable "[I" "java/lang/Cloneable") (by decide +kernel))⟩, hstr, hvk, hcs, hcq, hX, hbl⟩
  · match k, hq with
    | 0, hq => cases hq; exact ⟨ha1, hb1⟩
    | 1, hq => cases hq; exact ⟨ha2, hb2⟩
    | 2, hq => cases hq; exact ⟨ha3, hb3⟩
    | 3, hq => cases hq; exact ⟨ha4, hb4⟩
    | 4, hq => cases hq; exact ⟨ha5, hb5⟩
    | k + 5, hq => simp [jtys] at hq
  · have key : ∀ q ∈ jNm, Cond.methodLinkNest q.1 q.2.1 q.2.2.1 q.2.2.2 ∈ lw_tbl := by decide +kernel
    exact va_Nw.of rfl (hts _ (key q hq))
  · have key : ∀ q ∈ jNf, Cond.fieldLinkNest q.1 q.2.1 q.2.2.1 q.2.2.2.1 q.2.2.2.2.1 q.2.2.2.2.2 ∈ lw_tbl := by decide +kernel
    exact va_Nw.of rfl (hts _ (key q hq))
set_option maxHeartbeats 4000000 in
set_option maxRecDepth 100000 in
/-- THE LAW, from its entry, if the functional law answers 1 within the room -/
theorem jlaw {p : Program} {e : Env} {s : State} {m : MethodId} {below : List Frame} {meth : Method} {c : Code} (l : Launch) {b L : Nat} {xs : Nat → Int32} (C0 : lw_At p s m meth c b L xs) {Se : jSt} (hF : f_L_law L xs (b : Int) (jS0 s.heap.size) = some (1, Se)) (h1 : Se.1 ≤ s.heap.size + 600000) (h2 : Se.2.1 ≤ 7302250) : W p l e room_1 s m #[Value.ref b] below meth c s.heap [] 0 0 (lw_Z below #[Value.ref b] s) (entryFrame m ([Value.ref b] : List Value).toArray 4) := by
  obtain ⟨D, cA, k, v, hK⟩ := jstart l C0
  obtain ⟨hx, hb, hr, hml, hown, hts, hX, hbl, hlocks, hgv⟩ := id C0
  have hJ := e_L_law (G := (l, s.heap.size, D, cA, s.heap, k, v, b, L, xs)) (d := 1000) (S0 := jS0 s.heap.size) (by decide) (b : Int) (jS0 s.heap.size) rfl
  obtain ⟨-, h3⟩ := hJ (jS0_wf _) 1 Se hF
  have hl := lv_entry ([.ref b]) (n := 4) (Nat.le_of_ble_eq_true rfl)
  rw [lg_entry_eq]
  have hw := h3 p e room_1 s m #[Value.ref b] below meth c s.heap [] _ ⟨hx, hb, hml, hown, fun w hw => hts w (lw_g_in hw), hK, hlocks, hr, (fun h => absurd h (by decide)), Nat.le_refl _, fun _ _ => rfl⟩ rfl (Nat.le_refl _) (Nat.le_refl _) (Nat.le_of_ble_eq_true rfl) (Nat.le_of_ble_eq_true rfl) (by show Se.1 - s.heap.size ≤ 600000; omega) (by show Se.2.1 - 0 ≤ 7302250; omega) ⟨rfl, Nat.le_refl _, fun _ _ => rfl, (by
    intro k q hq
    unfold jwd at hq
    rw [show (jS0 s.heap.size).1 - ((l, s.heap.size, D, cA, s.heap, k, v, b, L, xs) : jG).2.1 = 0 from Nat.sub_self _] at hq
    simp [va_pl] at hq), (fun a ha => absurd ha (by show ¬ 9 ≤ 5; decide)), jS0_wf _⟩ va_S.rf hl
  rw [Nat.sub_self, Nat.sub_self] at hw
  refine W_mono (fun t ht => ?_) hw
  obtain ⟨o, q1, q2, ⟨q3, q4⟩, Ls, ⟨q5, q6, q7⟩, q8⟩ := ht
  refine ⟨o, q1, q2, q3, q5, q6, q7.weaken (fun y hy hlt => ?_) (by show Se.1 - s.heap.size ≤ 600000; omega) (by show Se.2.1 - 0 ≤ 7302250; omega)⟩
  have h9 : s.heap.size ≤ y.base := q8 y hy
  exact absurd hlt (Nat.not_lt.mpr h9)
