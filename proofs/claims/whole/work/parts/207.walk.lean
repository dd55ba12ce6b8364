-- X12_arePassed
def f_X12_arePassed_b7B (r7 : Int → Int → Int → jSt → Option (Int × jSt)) (x0 : Int) (x1 : Int) (x2 : Int) (S : jSt) : Option (Int × jSt) :=
  if x1 ≤ x2 then some (1, S) else fgetr S x0 12 0 (fun v2 => fald S v2 7 1 (fun v3 => if v3 = 9999 then some (0, S) else fcallv S x0 12 (f_X12_keep x0 S) (fun v4 S5 => fcallv S5 x0 12 (f_X12_pass x0 S5) (fun v6 S7 => flet (w32 (x2 + 1)) (fun v8 => r7 x0 x1 v8 S7)))))
theorem p_f_X12_arePassed_b7B {G : jG} {d : Nat} {S0 : jSt} (hd0 : 10 ≤ d) {r7 : Int → Int → Int → jSt → Option (Int × jSt)} (k7 : ∀ (x0 : Int) (x1 : Int) (x2 : Int) (S : jSt), (0 ≤ (x0)) → (R32 (x1)) → (R32 (x2)) → J G yX12_arePassed cX12_arePassed 3 (some .boolean) d S0 7 [(0, 2, x0), (1, 0, x1), (2, 0, x2)] [] S (r7 x0 x1 x2 S)) : ∀ (x0 : Int) (x1 : Int) (x2 : Int) (S : jSt), (0 ≤ (x0)) → (R32 (x1)) → (R32 (x2)) → J G yX12_arePassed cX12_arePassed 3 (some .boolean) d S0 7 [(0, 2, x0), (1, 0, x1), (2, 0, x2)] [] S (f_X12_arePassed_b7B r7 x0 x1 x2 S) := by
  intro x0 x1 x2 S h0 h1 h2
  unfold f_X12_arePassed_b7B
  refine j_iload_n 2 dX12_arePassed_7 rfl rfl ?_
  refine j_iload_n 1 dX12_arePassed_8 rfl rfl ?_
  refine j_icmp_ge (tgt := 41) h2 h1 dX12_arePassed_9 rfl (fun _ => ?_) (fun _ => ?_)
  · refine j_iconst dX12_arePassed_41 ?_
    exact j_zreturn jz1 dX12_arePassed_42
  · refine j_aload_n 0 dX12_arePassed_12 rfl rfl ?_
    refine j_getr (ci := 12) (k := 0) rfl in_X12 (Nat.le_of_ble_eq_true rfl) rfl rfl fl_X12_7 dX12_arePassed_13 (fun (v2 : Int) (hv2 : 0 ≤ v2) => ?_)
    refine j_bipush dX12_arePassed_16 (by decide) ?_
    refine j_iaload (j_r32 7 rfl) dX12_arePassed_18 (fun (v3 : Int) (hv3 : R32 (v3)) => ?_)
    refine j_sipush dX12_arePassed_19 (by decide) ?_
    refine j_icmp_ne (tgt := 27) hv3 (j_r32 9999 rfl) dX12_arePassed_22 rfl (fun _ => ?_) (fun _ => ?_)
    · refine j_aload_n 0 dX12_arePassed_27 rfl rfl ?_
      refine j_callV (ci := 12) (As := []) (st := []) kc_X12_keep (c_X12_keep x0 S h0) rfl lm_X12_358 ki_X12_keep ke_X12_keep rfl (Nat.le_of_ble_eq_true rfl) (Nat.le_trans (m := 10) (Nat.le_of_ble_eq_true rfl) hd0) dX12_arePassed_28 (fun v4 S5 _ => ?_)
      refine j_aload_n 0 dX12_arePassed_31 rfl rfl ?_
      refine j_callV (ci := 12) (As := []) (st := []) kc_X12_pass (c_X12_pass x0 S5 h0) rfl lm_X12_373 ki_X12_pass ke_X12_pass rfl (Nat.le_of_ble_eq_true rfl) (Nat.le_trans (m := 10) (Nat.le_of_ble_eq_true rfl) hd0) dX12_arePassed_32 (fun v6 S7 _ => ?_)
      refine j_iincL (q := 2) dX12_arePassed_35 rfl (Nat.le_of_ble_eq_true rfl) (fun v8 hv8 => ?_)
      refine j_lv (lv' := [(2, 0, v8), (0, 2, x0), (1, 0, x1)]) rfl ?_
      refine j_goto (tgt := 7) dX12_arePassed_38 rfl ?_
      refine j_sub [1, 2, 0] rfl ?_
      exact k7 x0 x1 v8 S7 h0 h1 hv8
    · refine j_iconst dX12_arePassed_25 ?_
      exact j_zreturn jz0 dX12_arePassed_26
def f_X12_arePassed_b7 : Int → Int → Int → jSt → Option (Int × jSt) := jrep (β := Int → Int → Int → jSt → Option (Int × jSt)) (fun _ _ _ _ => none) (fun r => f_X12_arePassed_b7B r) jN
theorem p_f_X12_arePassed_b7 {G : jG} {d : Nat} {S0 : jSt} (hd0 : 10 ≤ d) : ∀ (x0 : Int) (x1 : Int) (x2 : Int) (S : jSt), (0 ≤ (x0)) → (R32 (x1)) → (R32 (x2)) → J G yX12_arePassed cX12_arePassed 3 (some .boolean) d S0 7 [(0, 2, x0), (1, 0, x1), (2, 0, x2)] [] S (f_X12_arePassed_b7  x0 x1 x2 S) :=
  jrep_ind (P := fun (r : Int → Int → Int → jSt → Option (Int × jSt)) => ∀ (x0 : Int) (x1 : Int) (x2 : Int) (S : jSt), (0 ≤ (x0)) → (R32 (x1)) → (R32 (x2)) → J G yX12_arePassed cX12_arePassed 3 (some .boolean) d S0 7 [(0, 2, x0), (1, 0, x1), (2, 0, x2)] [] S (r x0 x1 x2 S)) (by intros; exact j_none) (fun r k => p_f_X12_arePassed_b7B hd0 k) jN
def f_X12_arePassed (a0 : Int) (a1 : Int) (S : jSt) : Option (Int × jSt) :=
  fput S a0 12 24 0 (fun S1 => f_X12_arePassed_b7 a0 a1 0 S1)
theorem e_X12_arePassed {G : jG} {d : Nat} {S0 : jSt} (hd0 : 10 ≤ d) (a0 : Int) (a1 : Int) (S : jSt) (h0 : 0 ≤ (a0)) (h1 : R32 (a1)) : J G yX12_arePassed cX12_arePassed 3 (some .boolean) d S0 0 [(0, 2, a0), (1, 0, a1)] [] S (f_X12_arePassed a0 a1 S) := by
  unfold f_X12_arePassed
  refine j_aload_n 0 dX12_arePassed_0 rfl rfl ?_
  refine j_iconst dX12_arePassed_1 ?_
  refine j_puti (ci := 12) (k := 24) (ty0 := tyX12) rfl in_X12 (Nat.le_of_ble_eq_true rfl) rfl tyX12_ok nmX12 rfl rfl (by decide +kernel) (jZ_R jz0) fl_X12_331 dX12_arePassed_2 (fun S1 => ?_)
  refine j_iconst dX12_arePassed_5 ?_
  refine j_istore_n (lv' := [(2, 0, 0), (0, 2, a0), (1, 0, a1)]) dX12_arePassed_6 rfl (Nat.le_of_ble_eq_true rfl) rfl ?_
  refine j_sub [1, 2, 0] rfl ?_
  exact p_f_X12_arePassed_b7 hd0 a0 a1 0 S1 h0 h1 (jZ_R jz0)
theorem c_X12_arePassed {G : jG} (a0 : Int) (a1 : Int) (S : jSt) (h0 : 0 ≤ (a0)) (h1 : R32 (a1)) : CT G yX12_arePassed cX12_arePassed 3 (some .boolean) 10 ([(2, a0), (0, a1)].map jval) S (f_X12_arePassed a0 a1 S) := ct_of [(2, a0), (0, a1)] (by decide) rfl (Nat.le_of_ble_eq_true rfl) (e_X12_arePassed (Nat.le_refl _) a0 a1 S h0 h1)
-- X12_couldBurn
def f_X12_couldBurn_b41 (r4 : Int → Int → Int → jSt → Option (Int × jSt)) (x0 : Int) (x1 : Int) (x2 : Int) (x3 : Int) (S : jSt) : Option (Int × jSt) :=
  flet (ior32 x2 x3) (fun v5 => flet (w32 (x1 + 1)) (fun v6 => r4 x0 v5 v6 S))
theorem p_f_X12_couldBurn_b41 {G : jG} {d : Nat} {S0 : jSt} (hd0 : 2 ≤ d) {r4 : Int → Int → Int → jSt → Option (Int × jSt)} (k4 : ∀ (x0 : Int) (x1 : Int) (x2 : Int) (S : jSt), (0 ≤ (x0)) → (R32 (x1)) → (R32 (x2)) → J G yX12_couldBurn cX12_couldBurn 3 (some .int) d S0 4 [(0, 2, x0), (1, 0, x1), (2, 0, x2)] [] S (r4 x0 x1 x2 S)) : ∀ (x0 : Int) (x1 : Int) (x2 : Int) (x3 : Int) (S : jSt), (0 ≤ (x0)) → (R32 (x1)) → (R32 (x2)) → (R32 (x3)) → J G yX12_couldBurn cX12_couldBurn 3 (some .int) d S0 41 [(0, 2, x0), (2, 0, x1)] [(0, x3), (0, x2)] S (f_X12_couldBurn_b41 r4 x0 x1 x2 x3 S) := by
  intro x0 x1 x2 x3 S h0 h1 h2 h3
  unfold f_X12_couldBurn_b41
  refine j_ior dX12_couldBurn_41 ?_
  refine j_leti (ior32_R _ _) (fun v5 hv5 => ?_)
  refine j_istore_n (lv' := [(1, 0, v5), (0, 2, x0), (2, 0, x1)]) dX12_couldBurn_42 rfl (Nat.le_of_ble_eq_true rfl) rfl ?_
  refine j_iincL (q := 2) dX12_couldBurn_43 rfl (Nat.le_of_ble_eq_true rfl) (fun v6 hv6 => ?_)
  refine j_lv (lv' := [(2, 0, v6), (1, 0, v5), (0, 2, x0)]) rfl ?_
  refine j_goto (tgt := 4) dX12_couldBurn_46 rfl ?_
  refine j_sub [2, 1, 0] rfl ?_
  exact k4 x0 v5 v6 S h0 hv5 hv6
def f_X12_couldBurn_b34 (r4 : Int → Int → Int → jSt → Option (Int × jSt)) (x0 : Int) (x1 : Int) (x2 : Int) (S : jSt) : Option (Int × jSt) :=
  f_X12_couldBurn_b41 r4 x0 x1 x2 (ishl32 1 x1) S
theorem p_f_X12_couldBurn_b34 {G : jG} {d : Nat} {S0 : jSt} (hd0 : 2 ≤ d) {r4 : Int → Int → Int → jSt → Option (Int × jSt)} (k4 : ∀ (x0 : Int) (x1 : Int) (x2 : Int) (S : jSt), (0 ≤ (x0)) → (R32 (x1)) → (R32 (x2)) → J G yX12_couldBurn cX12_couldBurn 3 (some .int) d S0 4 [(0, 2, x0), (1, 0, x1), (2, 0, x2)] [] S (r4 x0 x1 x2 S)) : ∀ (x0 : Int) (x1 : Int) (x2 : Int) (S : jSt), (0 ≤ (x0)) → (R32 (x1)) → (R32 (x2)) → J G yX12_couldBurn cX12_couldBurn 3 (some .int) d S0 34 [(0, 2, x0), (2, 0, x1)] [(0, x2)] S (f_X12_couldBurn_b34 r4 x0 x1 x2 S) := by
  intro x0 x1 x2 S h0 h1 h2
  unfold f_X12_couldBurn_b34
  refine j_iconst dX12_couldBurn_34 ?_
  refine j_iload_n 1 dX12_couldBurn_35 rfl rfl ?_
  refine j_ishl dX12_couldBurn_36 ?_
  refine j_goto (tgt := 41) dX12_couldBurn_37 rfl ?_
  exact p_f_X12_couldBurn_b41 hd0 k4 x0 x1 x2 (ishl32 1 x1) S h0 h1 h2 (ishl32_R _ _)
def f_X12_couldBurn_b4B (r4 : Int → Int → Int → jSt → Option (Int × jSt)) (x0 : Int) (x1 : Int) (x2 : Int) (S : jSt) : Option (Int × jSt) :=
  fgetr S x0 12 0 (fun v1 => fald S v1 0 1 (fun v2 => if v2 ≤ x2 then some (x1, S) else fcallv S x0 12 (f_X12_get x0 x2 1 S) (fun v3 S4 => if v3 = 0 then f_X12_couldBurn_b34 r4 x0 x2 x1 S4 else fcallv S4 x0 12 (f_X12_get x0 x2 1 S4) (fun v7 S8 => if v7 = 2 then f_X12_couldBurn_b34 r4 x0 x2 x1 S8 else f_X12_couldBurn_b41 r4 x0 x2 x1 0 S8))))
theorem p_f_X12_couldBurn_b4B {G : jG} {d : Nat} {S0 : jSt} (hd0 : 2 ≤ d) {r4 : Int → Int → Int → jSt → Option (Int × jSt)} (k4 : ∀ (x0 : Int) (x1 : Int) (x2 : Int) (S : jSt), (0 ≤ (x0)) → (R32 (x1)) → (R32 (x2)) → J G yX12_couldBurn cX12_couldBurn 3 (some .int) d S0 4 [(0, 2, x0), (1, 0, x1), (2, 0, x2)] [] S (r4 x0 x1 x2 S)) : ∀ (x0 : Int) (x1 : Int) (x2 : Int) (S : jSt), (0 ≤ (x0)) → (R32 (x1)) → (R32 (x2)) → J G yX12_couldBurn cX12_couldBurn 3 (some .int) d S0 4 [(0, 2, x0), (1, 0, x1), (2, 0, x2)] [] S (f_X12_couldBurn_b4B r4 x0 x1 x2 S) := by
  intro x0 x1 x2 S h0 h1 h2
  unfold f_X12_couldBurn_b4B
  refine j_iload_n 2 dX12_couldBurn_4 rfl rfl ?_
  refine j_aload_n 0 dX12_couldBurn_5 rfl rfl ?_
  refine j_getr (ci := 12) (k := 0) rfl in_X12 (Nat.le_of_ble_eq_true rfl) rfl rfl fl_X12_7 dX12_couldBurn_6 (fun (v1 : Int) (hv1 : 0 ≤ v1) => ?_)
  refine j_iconst dX12_couldBurn_9 ?_
  refine j_iaload (jZ_R jz0) dX12_couldBurn_10 (fun (v2 : Int) (hv2 : R32 (v2)) => ?_)
  refine j_icmp_ge (tgt := 49) h2 hv2 dX12_couldBurn_11 rfl (fun _ => ?_) (fun _ => ?_)
  · refine j_iload_n 1 dX12_couldBurn_49 rfl rfl ?_
    exact j_ireturn h1 dX12_couldBurn_50
  · refine j_iload_n 1 dX12_couldBurn_14 rfl rfl ?_
    refine j_aload_n 0 dX12_couldBurn_15 rfl rfl ?_
    refine j_iload_n 2 dX12_couldBurn_16 rfl rfl ?_
    refine j_iconst dX12_couldBurn_17 ?_
    refine j_callV (ci := 12) (As := [(0, x2), (0, 1)]) (st := [(0, x1)]) kc_X12_get (c_X12_get x0 x2 1 S h0 h2 (jZ_R jz1)) rfl lm_X12_68 ki_X12_get ke_X12_get rfl (Nat.le_of_ble_eq_true rfl) (Nat.le_trans (m := 2) (Nat.le_of_ble_eq_true rfl) hd0) dX12_couldBurn_18 (fun (v3 : Int) (S4 : jSt) (hv3 : R32 (v3)) => ?_)
    refine j_if_eq (tgt := 34) hv3 dX12_couldBurn_21 rfl (fun _ => ?_) (fun _ => ?_)
    · refine j_sub [0, 2] rfl ?_
      exact p_f_X12_couldBurn_b34 hd0 k4 x0 x2 x1 S4 h0 h2 h1
    · refine j_aload_n 0 dX12_couldBurn_24 rfl rfl ?_
      refine j_iload_n 2 dX12_couldBurn_25 rfl rfl ?_
      refine j_iconst dX12_couldBurn_26 ?_
      refine j_callV (ci := 12) (As := [(0, x2), (0, 1)]) (st := [(0, x1)]) kc_X12_get (c_X12_get x0 x2 1 S4 h0 h2 (jZ_R jz1)) rfl lm_X12_68 ki_X12_get ke_X12_get rfl (Nat.le_of_ble_eq_true rfl) (Nat.le_trans (m := 2) (Nat.le_of_ble_eq_true rfl) hd0) dX12_couldBurn_27 (fun (v7 : Int) (S8 : jSt) (hv7 : R32 (v7)) => ?_)
      refine j_iconst dX12_couldBurn_30 ?_
      refine j_icmp_ne (tgt := 40) hv7 (j_r32 2 rfl) dX12_couldBurn_31 rfl (fun _ => ?_) (fun _ => ?_)
      · refine j_iconst dX12_couldBurn_40 ?_
        refine j_sub [0, 2] rfl ?_
        exact p_f_X12_couldBurn_b41 hd0 k4 x0 x2 x1 0 S8 h0 h2 h1 (jZ_R jz0)
      · refine j_sub [0, 2] rfl ?_
        exact p_f_X12_couldBurn_b34 hd0 k4 x0 x2 x1 S8 h0 h2 h1
def f_X12_couldBurn_b4 : Int → Int → Int → jSt → Option (Int × jSt) := jrep (β := Int → Int → Int → jSt → Option (Int × jSt)) (fun _ _ _ _ => none) (fun r => f_X12_couldBurn_b4B r) jN
theorem p_f_X12_couldBurn_b4 {G : jG} {d : Nat} {S0 : jSt} (hd0 : 2 ≤ d) : ∀ (x0 : Int) (x1 : Int) (x2 : Int) (S : jSt), (0 ≤ (x0)) → (R32 (x1)) → (R32 (x2)) → J G yX12_couldBurn cX12_couldBurn 3 (some .int) d S0 4 [(0, 2, x0), (1, 0, x1), (2, 0, x2)] [] S (f_X12_couldBurn_b4  x0 x1 x2 S) :=
  jrep_ind (P := fun (r : Int → Int → Int → jSt → Option (Int × jSt)) => ∀ (x0 : Int) (x1 : Int) (x2 : Int) (S : jSt), (0 ≤ (x0)) → (R32 (x1)) → (R32 (x2)) → J G yX12_couldBurn cX12_couldBurn 3 (some .int) d S0 4 [(0, 2, x0), (1, 0, x1), (2, 0, x2)] [] S (r x0 x1 x2 S)) (by intros; exact j_none) (fun r k => p_f_X12_couldBurn_b4B hd0 k) jN
def f_X12_couldBurn (a0 : Int) (S : jSt) : Option (Int × jSt) :=
  f_X12_couldBurn_b4 a0 0 0 S
theorem e_X12_couldBurn {G : jG} {d : Nat} {S0 : jSt} (hd0 : 2 ≤ d) (a0 : Int) (S : jSt) (h0 : 0 ≤ (a0)) : J G yX12_couldBurn cX12_couldBurn 3 (some .int) d S0 0 [(0, 2, a0)] [] S (f_X12_couldBurn a0 S) := by
  unfold f_X12_couldBurn
  refine j_iconst dX12_couldBurn_0 ?_
  refine j_istore_n (lv' := [(1, 0, 0), (0, 2, a0)]) dX12_couldBurn_1 rfl (Nat.le_of_ble_eq_true rfl) rfl ?_
  refine j_iconst dX12_couldBurn_2 ?_
  refine j_istore_n (lv' := [(2, 0, 0), (1, 0, 0), (0, 2, a0)]) dX12_couldBurn_3 rfl (Nat.le_of_ble_eq_true rfl) rfl ?_
  refine j_sub [2, 1, 0] rfl ?_
  exact p_f_X12_couldBurn_b4 hd0 a0 0 0 S h0 (jZ_R jz0) (jZ_R jz0)
theorem c_X12_couldBurn {G : jG} (a0 : Int) (S : jSt) (h0 : 0 ≤ (a0)) : CT G yX12_couldBurn cX12_couldBurn 3 (some .int) 2 ([(2, a0)].map jval) S (f_X12_couldBurn a0 S) := ct_of [(2, a0)] (by decide) rfl (Nat.le_of_ble_eq_true rfl) (e_X12_couldBurn (Nat.le_refl _) a0 S h0)
-- X12_has
def f_X12_has_b14 (x0 : Int) (S : jSt) : Option (Int × jSt) :=
  some (x0, S)
theorem p_f_X12_has_b14 {G : jG} {d : Nat} {S0 : jSt} (hd0 : 1 ≤ d) : ∀ (x0 : Int) (S : jSt), ((x0) = 0 ∨ (x0) = 1) → J G yX12_has cX12_has 2 (some .boolean) d S0 14 [] [(0, x0)] S (f_X12_has_b14  x0 S) := by
  intro x0 S h0
  unfold f_X12_has_b14
  exact j_zreturn h0 dX12_has_14
def f_X12_has (a0 : Int) (a1 : Int) (S : jSt) : Option (Int × jSt) :=
  if (iand32 (ishr32 a0 a1) 1) = 1 then f_X12_has_b14 1 S else f_X12_has_b14 0 S
theorem e_X12_has {G : jG} {d : Nat} {S0 : jSt} (hd0 : 1 ≤ d) (a0 : Int) (a1 : Int) (S : jSt) (h0 : R32 (a0)) (h1 : R32 (a1)) : J G yX12_has cX12_has 2 (some .boolean) d S0 0 [(0, 0, a0), (1, 0, a1)] [] S (f_X12_has a0 a1 S) := by
  unfold f_X12_has
  refine j_iload_n 0 dX12_has_0 rfl rfl ?_
  refine j_iload_n 1 dX12_has_1 rfl rfl ?_
  refine j_ishr dX12_has_2 ?_
  refine j_iconst dX12_has_3 ?_
  refine j_iand dX12_has_4 ?_
  refine j_iconst dX12_has_5 ?_
  refine j_icmp_ne (tgt := 13) (iand32_R _ _) (jZ_R jz1) dX12_has_6 rfl (fun _ => ?_) (fun _ => ?_)
  · refine j_iconst dX12_has_13 ?_
    refine j_sub [] rfl ?_
    exact p_f_X12_has_b14 hd0 0 S jz0
  · refine j_iconst dX12_has_9 ?_
    refine j_goto (tgt := 14) dX12_has_10 rfl ?_
    refine j_sub [] rfl ?_
    exact p_f_X12_has_b14 hd0 1 S jz1
theorem c_X12_has {G : jG} (a0 : Int) (a1 : Int) (S : jSt) (h0 : R32 (a0)) (h1 : R32 (a1)) : CT G yX12_has cX12_has 2 (some .boolean) 1 ([(0, a0), (0, a1)].map jval) S (f_X12_has a0 a1 S) := ct_of [(0, a0), (0, a1)] (by decide) rfl (Nat.le_of_ble_eq_true rfl) (e_X12_has (Nat.le_refl _) a0 a1 S h0 h1)
-- X12_weightOf
def f_X12_weightOf_b33 (r4 : Int → Int → Int → Int → jSt → Option (Int × jSt)) (x0 : Int) (x1 : Int) (x2 : Int) (x3 : Int) (x4 : Int) (S : jSt) : Option (Int × jSt) :=
  flet (w32 (x3 + x4)) (fun v5 => flet (w32 (x2 + 1)) (fun v6 => r4 x0 x1 v5 v6 S))
theorem p_f_X12_weightOf_b33 {G : jG} {d : Nat} {S0 : jSt} (hd0 : 2 ≤ d) {r4 : Int → Int → Int → Int → jSt → Option (Int × jSt)} (k4 : ∀ (x0 : Int) (x1 : Int) (x2 : Int) (x3 : Int) (S : jSt), (0 ≤ (x0)) → (R32 (x1)) → (R32 (x2)) → (R32 (x3)) → J G yX12_weightOf cX12_weightOf 4 (some .int) d S0 4 [(0, 2, x0), (1, 0, x1), (2, 0, x2), (3, 0, x3)] [] S (r4 x0 x1 x2 x3 S)) : ∀ (x0 : Int) (x1 : Int) (x2 : Int) (x3 : Int) (x4 : Int) (S : jSt), (0 ≤ (x0)) → (R32 (x1)) → (R32 (x2)) → (R32 (x3)) → (R32 (x4)) → J G yX12_weightOf cX12_weightOf 4 (some .int) d S0 33 [(0, 2, x0), (1, 0, x1), (3, 0, x2)] [(0, x4), (0, x3)] S (f_X12_weightOf_b33 r4 x0 x1 x2 x3 x4 S) := by
  intro x0 x1 x2 x3 x4 S h0 h1 h2 h3 h4
  unfold f_X12_weightOf_b33
  refine j_iadd dX12_weightOf_33 ?_
  refine j_leti (w32_R _) (fun v5 hv5 => ?_)
  refine j_istore_n (lv' := [(2, 0, v5), (0, 2, x0), (1, 0, x1), (3, 0, x2)]) dX12_weightOf_34 rfl (Nat.le_of_ble_eq_true rfl) rfl ?_
  refine j_iincL (q := 3) dX12_weightOf_35 rfl (Nat.le_of_ble_eq_true rfl) (fun v6 hv6 => ?_)
  refine j_lv (lv' := [(3, 0, v6), (2, 0, v5), (0, 2, x0), (1, 0, x1)]) rfl ?_
  refine j_goto (tgt := 4) dX12_weightOf_38 rfl ?_
  refine j_sub [2, 3, 1, 0] rfl ?_
  exact k4 x0 x1 v5 v6 S h0 h1 hv5 hv6
def f_X12_weightOf_b4B (r4 : Int → Int → Int → Int → jSt → Option (Int × jSt)) (x0 : Int) (x1 : Int) (x2 : Int) (x3 : Int) (S : jSt) : Option (Int × jSt) :=
  fgetr S x0 12 0 (fun v1 => fald S v1 0 1 (fun v2 => if v2 ≤ x3 then some (x2, S) else fcall (f_X12_has x1 x3 S) (fun v3 S4 => if v3 = 0 then f_X12_weightOf_b33 r4 x0 x1 x3 x2 0 S4 else fcallv S4 x0 12 (f_X12_get x0 x3 3 S4) (fun v7 S8 => f_X12_weightOf_b33 r4 x0 x1 x3 x2 v7 S8))))
theorem p_f_X12_weightOf_b4B {G : jG} {d : Nat} {S0 : jSt} (hd0 : 2 ≤ d) {r4 : Int → Int → Int → Int → jSt → Option (Int × jSt)} (k4 : ∀ (x0 : Int) (x1 : Int) (x2 : Int) (x3 : Int) (S : jSt), (0 ≤ (x0)) → (R32 (x1)) → (R32 (x2)) → (R32 (x3)) → J G yX12_weightOf cX12_weightOf 4 (some .int) d S0 4 [(0, 2, x0), (1, 0, x1), (2, 0, x2), (3, 0, x3)] [] S (r4 x0 x1 x2 x3 S)) : ∀ (x0 : Int) (x1 : Int) (x2 : Int) (x3 : Int) (S : jSt), (0 ≤ (x0)) → (R32 (x1)) → (R32 (x2)) → (R32 (x3)) → J G yX12_weightOf cX12_weightOf 4 (some .int) d S0 4 [(0, 2, x0), (1, 0, x1), (2, 0, x2), (3, 0, x3)] [] S (f_X12_weightOf_b4B r4 x0 x1 x2 x3 S) := by
  intro x0 x1 x2 x3 S h0 h1 h2 h3
  unfold f_X12_weightOf_b4B
  refine j_iload_n 3 dX12_weightOf_4 rfl rfl ?_
  refine j_aload_n 0 dX12_weightOf_5 rfl rfl ?_
  refine j_getr (ci := 12) (k := 0) rfl in_X12 (Nat.le_of_ble_eq_true rfl) rfl rfl fl_X12_7 dX12_weightOf_6 (fun (v1 : Int) (hv1 : 0 ≤ v1) => ?_)
  refine j_iconst dX12_weightOf_9 ?_
  refine j_iaload (jZ_R jz0) dX12_weightOf_10 (fun (v2 : Int) (hv2 : R32 (v2)) => ?_)
  refine j_icmp_ge (tgt := 41) h3 hv2 dX12_weightOf_11 rfl (fun _ => ?_) (fun _ => ?_)
  · refine j_iload_n 2 dX12_weightOf_41 rfl rfl ?_
    exact j_ireturn h2 dX12_weightOf_42
  · refine j_iload_n 2 dX12_weightOf_14 rfl rfl ?_
    refine j_iload_n 1 dX12_weightOf_15 rfl rfl ?_
    refine j_iload_n 3 dX12_weightOf_16 rfl rfl ?_
    refine j_callS (As := [(0, x1), (0, x3)]) (st := [(0, x2)]) kc_X12_has (c_X12_has x1 x3 S h1 h3) lm_X12_249 ks_X12_has rfl (Nat.le_of_ble_eq_true rfl) (Nat.le_trans (m := 2) (Nat.le_of_ble_eq_true rfl) hd0) dX12_weightOf_17 (fun (v3 : Int) (S4 : jSt) (hv3 : (v3) = 0 ∨ (v3) = 1) => ?_)
    refine j_if_eq (tgt := 32) (jZ_R hv3) dX12_weightOf_20 rfl (fun _ => ?_) (fun _ => ?_)
    · refine j_iconst dX12_weightOf_32 ?_
      refine j_sub [0, 1, 3] rfl ?_
      exact p_f_X12_weightOf_b33 hd0 k4 x0 x1 x3 x2 0 S4 h0 h1 h3 h2 (jZ_R jz0)
    · refine j_aload_n 0 dX12_weightOf_23 rfl rfl ?_
      refine j_iload_n 3 dX12_weightOf_24 rfl rfl ?_
      refine j_iconst dX12_weightOf_25 ?_
      refine j_callV (ci := 12) (As := [(0, x3), (0, 3)]) (st := [(0, x2)]) kc_X12_get (c_X12_get x0 x3 3 S4 h0 h3 (j_r32 3 rfl)) rfl lm_X12_68 ki_X12_get ke_X12_get rfl (Nat.le_of_ble_eq_true rfl) (Nat.le_trans (m := 2) (Nat.le_of_ble_eq_true rfl) hd0) dX12_weightOf_26 (fun (v7 : Int) (S8 : jSt) (hv7 : R32 (v7)) => ?_)
      refine j_goto (tgt := 33) dX12_weightOf_29 rfl ?_
      refine j_sub [0, 1, 3] rfl ?_
      exact p_f_X12_weightOf_b33 hd0 k4 x0 x1 x3 x2 v7 S8 h0 h1 h3 h2 hv7
def f_X12_weightOf_b4 : Int → Int → Int → Int → jSt → Option (Int × jSt) := jrep (β := Int → Int → Int → Int → jSt → Option (Int × jSt)) (fun _ _ _ _ _ => none) (fun r => f_X12_weightOf_b4B r) jN
theorem p_f_X12_weightOf_b4 {G : jG} {d : Nat} {S0 : jSt} (hd0 : 2 ≤ d) : ∀ (x0 : Int) (x1 : Int) (x2 : Int) (x3 : Int) (S : jSt), (0 ≤ (x0)) → (R32 (x1)) → (R32 (x2)) → (R32 (x3)) → J G yX12_weightOf cX12_weightOf 4 (some .int) d S0 4 [(0, 2, x0), (1, 0, x1), (2, 0, x2), (3, 0, x3)] [] S (f_X12_weightOf_b4  x0 x1 x2 x3 S) :=
  jrep_ind (P := fun (r : Int → Int → Int → Int → jSt → Option (Int × jSt)) => ∀ (x0 : Int) (x1 : Int) (x2 : Int) (x3 : Int) (S : jSt), (0 ≤ (x0)) → (R32 (x1)) → (R32 (x2)) → (R32 (x3)) → J G yX12_weightOf cX12_weightOf 4 (some .int) d S0 4 [(0, 2, x0), (1, 0, x1), (2, 0, x2), (3, 0, x3)] [] S (r x0 x1 x2 x3 S)) (by intros; exact j_none) (fun r k => p_f_X12_weightOf_b4B hd0 k) jN
def f_X12_weightOf (a0 : Int) (a1 : Int) (S : jSt) : Option (Int × jSt) :=
  f_X12_weightOf_b4 a0 a1 0 0 S
theorem e_X12_weightOf {G : jG} {d : Nat} {S0 : jSt} (hd0 : 2 ≤ d) (a0 : Int) (a1 : Int) (S : jSt) (h0 : 0 ≤ (a0)) (h1 : R32 (a1)) : J G yX12_weightOf cX12_weightOf 4 (some .int) d S0 0 [(0, 2, a0), (1, 0, a1)] [] S (f_X12_weightOf a0 a1 S) := by
  unfold f_X12_weightOf
  refine j_iconst dX12_weightOf_0 ?_
  refine j_istore_n (lv' := [(2, 0, 0), (0, 2, a0), (1, 0, a1)]) dX12_weightOf_1 rfl (Nat.le_of_ble_eq_true rfl) rfl ?_
  refine j_iconst dX12_weightOf_2 ?_
  refine j_istore_n (lv' := [(3, 0, 0), (2, 0, 0), (0, 2, a0), (1, 0, a1)]) dX12_weightOf_3 rfl (Nat.le_of_ble_eq_true rfl) rfl ?_
  refine j_sub [2, 3, 1, 0] rfl ?_
  exact p_f_X12_weightOf_b4 hd0 a0 a1 0 0 S h0 h1 (jZ_R jz0) (jZ_R jz0)
theorem c_X12_weightOf {G : jG} (a0 : Int) (a1 : Int) (S : jSt) (h0 : 0 ≤ (a0)) (h1 : R32 (a1)) : CT G yX12_weightOf cX12_weightOf 4 (some .int) 2 ([(2, a0), (0, a1)].map jval) S (f_X12_weightOf a0 a1 S) := ct_of [(2, a0), (0, a1)] (by decide) rfl (Nat.le_of_ble_eq_true rfl) (e_X12_weightOf (Nat.le_refl _) a0 a1 S h0 h1)
-- X12_layAsh
def f_X12_layAsh_b94 (r23 : Int → Int → Int → Int → Int → jSt → Option (Int × jSt)) (x0 : Int) (x1 : Int) (x2 : Int) (x3 : Int) (x4 : Int) (S : jSt) : Option (Int × jSt) :=
  flet (w32 (x4 + 1)) (fun v6 => r23 x0 x1 x2 x3 v6 S)
theorem p_f_X12_layAsh_b94 {G : jG} {d : Nat} {S0 : jSt} (hd0 : 3 ≤ d) {r23 : Int → Int → Int → Int → Int → jSt → Option (Int × jSt)} (k23 : ∀ (x0 : Int) (x1 : Int) (x2 : Int) (x3 : Int) (x4 : Int) (S : jSt), (0 ≤ (x0)) → (R32 (x1)) → (R32 (x2)) → (R32 (x3)) → (R32 (x4)) → J G yX12_layAsh cX12_layAsh 5 none d S0 23 [(0, 2, x0), (1, 0, x1), (2, 0, x2), (3, 0, x3), (4, 0, x4)] [] S (r23 x0 x1 x2 x3 x4 S)) : ∀ (x0 : Int) (x1 : Int) (x2 : Int) (x3 : Int) (x4 : Int) (S : jSt), (0 ≤ (x0)) → (R32 (x1)) → (R32 (x2)) → (R32 (x3)) → (R32 (x4)) → J G yX12_layAsh cX12_layAsh 5 none d S0 94 [(0, 2, x0), (1, 0, x1), (2, 0, x2), (3, 0, x3), (4, 0, x4)] [] S (f_X12_layAsh_b94 r23 x0 x1 x2 x3 x4 S) := by
  intro x0 x1 x2 x3 x4 S h0 h1 h2 h3 h4
  unfold f_X12_layAsh_b94
  refine j_iincL (q := 4) dX12_layAsh_94 rfl (Nat.le_of_ble_eq_true rfl) (fun v6 hv6 => ?_)
  refine j_lv (lv' := [(4, 0, v6), (0, 2, x0), (1, 0, x1), (2, 0, x2), (3, 0, x3)]) rfl ?_
  refine j_goto (tgt := 23) dX12_layAsh_97 rfl ?_
  refine j_sub [1, 2, 3, 4, 0] rfl ?_
  exact k23 x0 x1 x2 x3 v6 S h0 h1 h2 h3 hv6
def f_X12_layAsh_b23B (r23 : Int → Int → Int → Int → Int → jSt → Option (Int × jSt)) (x0 : Int) (x1 : Int) (x2 : Int) (x3 : Int) (x4 : Int) (S : jSt) : Option (Int × jSt) :=
  if x3 < x4 then some (0, S) else if (iand32 x4 (ixor32 x3 (-1))) = 0 then fcall (f_X12_bits x4 S) (fun v7 S8 => if v7 = x2 then fcallv S8 x0 12 (f_X12_weightOf x0 x4 S8) (fun v9 S10 => if v9 = x1 then fget S10 x0 12 28 (fun v11 => fput S10 x0 12 28 (w32 (v11 + 1)) (fun S12 => fget S12 x0 12 29 (fun v13 => fput S12 x0 12 29 (iand32 v13 x4) (fun S14 => fget S14 x0 12 30 (fun v15 => fput S14 x0 12 30 (iand32 v15 (ixor32 x4 (-1))) (fun S16 => f_X12_layAsh_b94 r23 x0 x1 x2 x3 x4 S16)))))) else f_X12_layAsh_b94 r23 x0 x1 x2 x3 x4 S10) else f_X12_layAsh_b94 r23 x0 x1 x2 x3 x4 S8) else f_X12_layAsh_b94 r23 x0 x1 x2 x3 x4 S
theorem p_f_X12_layAsh_b23B {G : jG} {d : Nat} {S0 : jSt} (hd0 : 3 ≤ d) {r23 : Int → Int → Int → Int → Int → jSt → Option (Int × jSt)} (k23 : ∀ (x0 : Int) (x1 : Int) (x2 : Int) (x3 : Int) (x4 : Int) (S : jSt), (0 ≤ (x0)) → (R32 (x1)) → (R32 (x2)) → (R32 (x3)) → (R32 (x4)) → J G yX12_layAsh cX12_layAsh 5 none d S0 23 [(0, 2, x0), (1, 0, x1), (2, 0, x2), (3, 0, x3), (4, 0, x4)] [] S (r23 x0 x1 x2 x3 x4 S)) : ∀ (x0 : Int) (x1 : Int) (x2 : Int) (x3 : Int) (x4 : Int) (S : jSt), (0 ≤ (x0)) → (R32 (x1)) → (R32 (x2)) → (R32 (x3)) → (R32 (x4)) → J G yX12_layAsh cX12_layAsh 5 none d S0 23 [(0, 2, x0), (1, 0, x1), (2, 0, x2), (3, 0, x3), (4, 0, x4)] [] S (f_X12_layAsh_b23B r23 x0 x1 x2 x3 x4 S) := by
  intro x0 x1 x2 x3 x4 S h0 h1 h2 h3 h4
  unfold f_X12_layAsh_b23B
  refine j_iload 4 dX12_layAsh_23 rfl ?_
  refine j_iload_n 3 dX12_layAsh_25 rfl rfl ?_
  refine j_icmp_gt (tgt := 100) h4 h3 dX12_layAsh_26 rfl (fun _ => ?_) (fun _ => ?_)
  · exact j_return dX12_layAsh_100
  · refine j_iload 4 dX12_layAsh_29 rfl ?_
    refine j_iload_n 3 dX12_layAsh_31 rfl rfl ?_
    refine j_iconst dX12_layAsh_32 ?_
    refine j_ixor dX12_layAsh_33 ?_
    refine j_iand dX12_layAsh_34 ?_
    refine j_if_ne (tgt := 94) (iand32_R _ _) dX12_layAsh_35 rfl (fun _ => ?_) (fun _ => ?_)
    · exact p_f_X12_layAsh_b94 hd0 k23 x0 x1 x2 x3 x4 S h0 h1 h2 h3 h4
    · refine j_iload 4 dX12_layAsh_38 rfl ?_
      refine j_callS (As := [(0, x4)]) (st := []) kc_X12_bits (c_X12_bits x4 S h4) lm_X12_305 ks_X12_bits rfl (Nat.le_of_ble_eq_true rfl) (Nat.le_trans (m := 3) (Nat.le_of_ble_eq_true rfl) hd0) dX12_layAsh_40 (fun (v7 : Int) (S8 : jSt) (hv7 : R32 (v7)) => ?_)
      refine j_iload_n 2 dX12_layAsh_43 rfl rfl ?_
      refine j_icmp_ne (tgt := 94) hv7 h2 dX12_layAsh_44 rfl (fun _ => ?_) (fun _ => ?_)
      · exact p_f_X12_layAsh_b94 hd0 k23 x0 x1 x2 x3 x4 S8 h0 h1 h2 h3 h4
      · refine j_aload_n 0 dX12_layAsh_47 rfl rfl ?_
        refine j_iload 4 dX12_layAsh_48 rfl ?_
        refine j_callV (ci := 12) (As := [(0, x4)]) (st := []) kc_X12_weightOf (c_X12_weightOf x0 x4 S8 h0 h4) rfl lm_X12_483 ki_X12_weightOf ke_X12_weightOf rfl (Nat.le_of_ble_eq_true rfl) (Nat.le_trans (m := 3) (Nat.le_of_ble_eq_true rfl) hd0) dX12_layAsh_50 (fun (v9 : Int) (S10 : jSt) (hv9 : R32 (v9)) => ?_)
        refine j_iload_n 1 dX12_layAsh_53 rfl rfl ?_
        refine j_icmp_eq (tgt := 60) hv9 h1 dX12_layAsh_54 rfl (fun _ => ?_) (fun _ => ?_)
        · refine j_aload_n 0 dX12_layAsh_60 rfl rfl ?_
          refine j_dup dX12_layAsh_61 (fun h => nomatch h) ?_
          refine j_get (ci := 12) (k := 28) (t := 0) rfl in_X12 (Nat.le_of_ble_eq_true rfl) rfl rfl fl_X12_474 dX12_layAsh_62 (fun (v11 : Int) (hv11 : R32 (v11)) => ?_)
          refine j_iconst dX12_layAsh_65 ?_
          refine j_iadd dX12_layAsh_66 ?_
          refine j_puti (ci := 12) (k := 28) (ty0 := tyX12) rfl in_X12 (Nat.le_of_ble_eq_true rfl) rfl tyX12_ok nmX12 rfl rfl (by decide +kernel) (w32_R _) fl_X12_474 dX12_layAsh_67 (fun S12 => ?_)
          refine j_aload_n 0 dX12_layAsh_70 rfl rfl ?_
          refine j_dup dX12_layAsh_71 (fun h => nomatch h) ?_
          refine j_get (ci := 12) (k := 29) (t := 0) rfl in_X12 (Nat.le_of_ble_eq_true rfl) rfl rfl fl_X12_477 dX12_layAsh_72 (fun (v13 : Int) (hv13 : R32 (v13)) => ?_)
          refine j_iload 4 dX12_layAsh_75 rfl ?_
          refine j_iand dX12_layAsh_77 ?_
          refine j_puti (ci := 12) (k := 29) (ty0 := tyX12) rfl in_X12 (Nat.le_of_ble_eq_true rfl) rfl tyX12_ok nmX12 rfl rfl (by decide +kernel) (iand32_R _ _) fl_X12_477 dX12_layAsh_78 (fun S14 => ?_)
          refine j_aload_n 0 dX12_layAsh_81 rfl rfl ?_
          refine j_dup dX12_layAsh_82 (fun h => nomatch h) ?_
          refine j_get (ci := 12) (k := 30) (t := 0) rfl in_X12 (Nat.le_of_ble_eq_true rfl) rfl rfl fl_X12_480 dX12_layAsh_83 (fun (v15 : Int) (hv15 : R32 (v15)) => ?_)
          refine j_iload 4 dX12_layAsh_86 rfl ?_
          refine j_iconst dX12_layAsh_88 ?_
          refine j_ixor dX12_layAsh_89 ?_
          refine j_iand dX12_layAsh_90 ?_
          refine j_puti (ci := 12) (k := 30) (ty0 := tyX12) rfl in_X12 (Nat.le_of_ble_eq_true rfl) rfl tyX12_ok nmX12 rfl rfl (by decide +kernel) (iand32_R _ _) fl_X12_480 dX12_layAsh_91 (fun S16 => ?_)
          exact p_f_X12_layAsh_b94 hd0 k23 x0 x1 x2 x3 x4 S16 h0 h1 h2 h3 h4
        · refine j_goto (tgt := 94) dX12_layAsh_57 rfl ?_
          exact p_f_X12_layAsh_b94 hd0 k23 x0 x1 x2 x3 x4 S10 h0 h1 h2 h3 h4
def f_X12_layAsh_b23 : Int → Int → Int → Int → Int → jSt → Option (Int × jSt) := jrep (β := Int → Int → Int → Int → Int → jSt → Option (Int × jSt)) (fun _ _ _ _ _ _ => none) (fun r => f_X12_layAsh_b23B r) jN
theorem p_f_X12_layAsh_b23 {G : jG} {d : Nat} {S0 : jSt} (hd0 : 3 ≤ d) : ∀ (x0 : Int) (x1 : Int) (x2 : Int) (x3 : Int) (x4 : Int) (S : jSt), (0 ≤ (x0)) → (R32 (x1)) → (R32 (x2)) → (R32 (x3)) → (R32 (x4)) → J G yX12_layAsh cX12_layAsh 5 none d S0 23 [(0, 2, x0), (1, 0, x1), (2, 0, x2), (3, 0, x3), (4, 0, x4)] [] S (f_X12_layAsh_b23  x0 x1 x2 x3 x4 S) :=
  jrep_ind (P := fun (r : Int → Int → Int → Int → Int → jSt → Option (Int × jSt)) => ∀ (x0 : Int) (x1 : Int) (x2 : Int) (x3 : Int) (x4 : Int) (S : jSt), (0 ≤ (x0)) → (R32 (x1)) → (R32 (x2)) → (R32 (x3)) → (R32 (x4)) → J G yX12_layAsh cX12_layAsh 5 none d S0 23 [(0, 2, x0), (1, 0, x1), (2, 0, x2), (3, 0, x3), (4, 0, x4)] [] S (r x0 x1 x2 x3 x4 S)) (by intros; exact j_none) (fun r k => p_f_X12_layAsh_b23B hd0 k) jN
def f_X12_layAsh (a0 : Int) (a1 : Int) (a2 : Int) (S : jSt) : Option (Int × jSt) :=
  fcallv S a0 12 (f_X12_couldBurn a0 S) (fun v1 S2 => fput S2 a0 12 28 0 (fun S3 => fput S3 a0 12 29 v1 (fun S4 => fput S4 a0 12 30 v1 (fun S5 => f_X12_layAsh_b23 a0 a1 a2 v1 0 S5))))
theorem e_X12_layAsh {G : jG} {d : Nat} {S0 : jSt} (hd0 : 3 ≤ d) (a0 : Int) (a1 : Int) (a2 : Int) (S : jSt) (h0 : 0 ≤ (a0)) (h1 : R32 (a1)) (h2 : R32 (a2)) : J G yX12_layAsh cX12_layAsh 5 none d S0 0 [(0, 2, a0), (1, 0, a1), (2, 0, a2)] [] S (f_X12_layAsh a0 a1 a2 S) := by
  unfold f_X12_layAsh
  refine j_aload_n 0 dX12_layAsh_0 rfl rfl ?_
  refine j_callV (ci := 12) (As := []) (st := []) kc_X12_couldBurn (c_X12_couldBurn a0 S h0) rfl lm_X12_471 ki_X12_couldBurn ke_X12_couldBurn rfl (Nat.le_of_ble_eq_true rfl) (Nat.le_trans (m := 3) (Nat.le_of_ble_eq_true rfl) hd0) dX12_layAsh_1 (fun (v1 : Int) (S2 : jSt) (hv1 : R32 (v1)) => ?_)
  refine j_istore_n (lv' := [(3, 0, v1), (0, 2, a0), (1, 0, a1), (2, 0, a2)]) dX12_layAsh_4 rfl (Nat.le_of_ble_eq_true rfl) rfl ?_
  refine j_aload_n 1 dX12_layAsh_5 rfl rfl ?_
  refine j_iconst dX12_layAsh_6 ?_
  refine j_puti (ci := 12) (k := 28) (ty0 := tyX12) rfl in_X12 (Nat.le_of_ble_eq_true rfl) rfl tyX12_ok nmX12 rfl rfl (by decide +kernel) (jZ_R jz0) fl_X12_474 dX12_layAsh_7 (fun S3 => ?_)
  refine j_aload_n 1 dX12_layAsh_10 rfl rfl ?_
  refine j_iload_n 0 dX12_layAsh_11 rfl rfl ?_
  refine j_puti (ci := 12) (k := 29) (ty0 := tyX12) rfl in_X12 (Nat.le_of_ble_eq_true rfl) rfl tyX12_ok nmX12 rfl rfl (by decide +kernel) hv1 fl_X12_477 dX12_layAsh_12 (fun S4 => ?_)
  refine j_aload_n 1 dX12_layAsh_15 rfl rfl ?_
  refine j_iload_n 0 dX12_layAsh_16 rfl rfl ?_
  refine j_puti (ci := 12) (k := 30) (ty0 := tyX12) rfl in_X12 (Nat.le_of_ble_eq_true rfl) rfl tyX12_ok nmX12 rfl rfl (by decide +kernel) hv1 fl_X12_480 dX12_layAsh_17 (fun S5 => ?_)
  refine j_iconst dX12_layAsh_20 ?_
  refine j_istore (lv' := [(4, 0, 0), (3, 0, v1), (0, 2, a0), (1, 0, a1), (2, 0, a2)]) dX12_layAsh_21 (Nat.le_of_ble_eq_true rfl) rfl ?_
  refine j_sub [2, 3, 4, 1, 0] rfl ?_
  exact p_f_X12_layAsh_b23 hd0 a0 a1 a2 v1 0 S5 h0 h1 h2 hv1 (jZ_R jz0)
theorem c_X12_layAsh {G : jG} (a0 : Int) (a1 : Int) (a2 : Int) (S : jSt) (h0 : 0 ≤ (a0)) (h1 : R32 (a1)) (h2 : R32 (a2)) : CT G yX12_layAsh cX12_layAsh 5 none 3 ([(2, a0), (0, a1), (0, a2)].map jval) S (f_X12_layAsh a0 a1 a2 S) := ct_of [(2, a0), (0, a1), (0, a2)] (by decide) rfl (Nat.le_of_ble_eq_true rfl) (e_X12_layAsh (Nat.le_refl _) a0 a1 a2 S h0 h1 h2)
-- X12_ash
def f_X12_ash_b20 (S : jSt) : Option (Int × jSt) :=
  some ((-1), S)
theorem p_f_X12_ash_b20 {G : jG} {d : Nat} {S0 : jSt} (hd0 : 4 ≤ d) : ∀ (S : jSt), J G yX12_ash cX12_ash 3 (some .int) d S0 20 [] [] S (f_X12_ash_b20   S) := by
  intro S
  unfold f_X12_ash_b20
  refine j_iconst dX12_ash_20 ?_
  exact j_ireturn (j_r32 (-1) rfl) dX12_ash_21
def f_X12_ash (a0 : Int) (a1 : Int) (a2 : Int) (S : jSt) : Option (Int × jSt) :=
  fcall (f_X12_isIn a1 0 108 S) (fun v1 S2 => if v1 = 0 then f_X12_ash_b20 S2 else fcall (f_X12_isIn a2 0 12 S2) (fun v3 S4 => if v3 = 0 then f_X12_ash_b20 S4 else fcallv S4 a0 12 (f_X12_layAsh a0 a1 a2 S4) (fun v5 S6 => fget S6 a0 12 28 (fun v7 => some (v7, S6)))))
theorem e_X12_ash {G : jG} {d : Nat} {S0 : jSt} (hd0 : 4 ≤ d) (a0 : Int) (a1 : Int) (a2 : Int) (S : jSt) (h0 : 0 ≤ (a0)) (h1 : R32 (a1)) (h2 : R32 (a2)) : J G yX12_ash cX12_ash 3 (some .int) d S0 0 [(0, 2, a0), (1, 0, a1), (2, 0, a2)] [] S (f_X12_ash a0 a1 a2 S) := by
  unfold f_X12_ash
  refine j_iload_n 1 dX12_ash_0 rfl rfl ?_
  refine j_iconst dX12_ash_1 ?_
  refine j_bipush dX12_ash_2 (by decide) ?_
  refine j_callS (As := [(0, a1), (0, 0), (0, 108)]) (st := []) kc_X12_isIn (c_X12_isIn a1 0 108 S h1 (jZ_R jz0) (j_r32 108 rfl)) lm_X12_60 ks_X12_isIn rfl (Nat.le_of_ble_eq_true rfl) (Nat.le_trans (m := 4) (Nat.le_of_ble_eq_true rfl) hd0) dX12_ash_4 (fun (v1 : Int) (S2 : jSt) (hv1 : (v1) = 0 ∨ (v1) = 1) => ?_)
  refine j_if_eq (tgt := 20) (jZ_R hv1) dX12_ash_7 rfl (fun _ => ?_) (fun _ => ?_)
  · refine j_sub [] rfl ?_
    exact p_f_X12_ash_b20 hd0 S2
  · refine j_iload_n 2 dX12_ash_10 rfl rfl ?_
    refine j_iconst dX12_ash_11 ?_
    refine j_bipush dX12_ash_12 (by decide) ?_
    refine j_callS (As := [(0, a2), (0, 0), (0, 12)]) (st := []) kc_X12_isIn (c_X12_isIn a2 0 12 S2 h2 (jZ_R jz0) (j_r32 12 rfl)) lm_X12_60 ks_X12_isIn rfl (Nat.le_of_ble_eq_true rfl) (Nat.le_trans (m := 4) (Nat.le_of_ble_eq_true rfl) hd0) dX12_ash_14 (fun (v3 : Int) (S4 : jSt) (hv3 : (v3) = 0 ∨ (v3) = 1) => ?_)
    refine j_if_ne (tgt := 22) (jZ_R hv3) dX12_ash_17 rfl (fun _ => ?_) (fun _ => ?_)
    · refine j_aload_n 0 dX12_ash_22 rfl rfl ?_
      refine j_iload_n 1 dX12_ash_23 rfl rfl ?_
      refine j_iload_n 2 dX12_ash_24 rfl rfl ?_
      refine j_callV (ci := 12) (As := [(0, a1), (0, a2)]) (st := []) kc_X12_layAsh (c_X12_layAsh a0 a1 a2 S4 h0 h1 h2) rfl lm_X12_486 ki_X12_layAsh ke_X12_layAsh rfl (Nat.le_of_ble_eq_true rfl) (Nat.le_trans (m := 4) (Nat.le_of_ble_eq_true rfl) hd0) dX12_ash_25 (fun v5 S6 _ => ?_)
      refine j_aload_n 0 dX12_ash_28 rfl rfl ?_
      refine j_get (ci := 12) (k := 28) (t := 0) rfl in_X12 (Nat.le_of_ble_eq_true rfl) rfl rfl fl_X12_474 dX12_ash_29 (fun (v7 : Int) (hv7 : R32 (v7)) => ?_)
      exact j_ireturn hv7 dX12_ash_32
    · refine j_sub [] rfl ?_
      exact p_f_X12_ash_b20 hd0 S4
theorem c_X12_ash {G : jG} (a0 : Int) (a1 : Int) (a2 : Int) (S : jSt) (h0 : 0 ≤ (a0)) (h1 : R32 (a1)) (h2 : R32 (a2)) : CT G yX12_ash cX12_ash 3 (some .int) 4 ([(2, a0), (0, a1), (0, a2)].map jval) S (f_X12_ash a0 a1 a2 S) := ct_of [(2, a0), (0, a1), (0, a2)] (by decide) rfl (Nat.le_of_ble_eq_true rfl) (e_X12_ash (Nat.le_refl _) a0 a1 a2 S h0 h1 h2)
-- X12_copy
def f_X12_copy_b2B (r2 : Int → Int → Int → jSt → Option (Int × jSt)) (x0 : Int) (x1 : Int) (x2 : Int) (S : jSt) : Option (Int × jSt) :=
  if 4903 ≤ x2 then some (0, S) else fald S x0 x2 1 (fun v1 => fast S x1 x2 1 v1 (fun S2 => flet (w32 (x2 + 1)) (fun v3 => r2 x0 x1 v3 S2)))
theorem p_f_X12_copy_b2B {G : jG} {d : Nat} {S0 : jSt} (hd0 : 1 ≤ d) {r2 : Int → Int → Int → jSt → Option (Int × jSt)} (k2 : ∀ (x0 : Int) (x1 : Int) (x2 : Int) (S : jSt), (0 ≤ (x0)) → (0 ≤ (x1)) → (R32 (x2)) → J G yX12_copy cX12_copy 3 none d S0 2 [(0, 2, x0), (1, 2, x1), (2, 0, x2)] [] S (r2 x0 x1 x2 S)) : ∀ (x0 : Int) (x1 : Int) (x2 : Int) (S : jSt), (0 ≤ (x0)) → (0 ≤ (x1)) → (R32 (x2)) → J G yX12_copy cX12_copy 3 none d S0 2 [(0, 2, x0), (1, 2, x1), (2, 0, x2)] [] S (f_X12_copy_b2B r2 x0 x1 x2 S) := by
  intro x0 x1 x2 S h0 h1 h2
  unfold f_X12_copy_b2B
  refine j_iload_n 2 dX12_copy_2 rfl rfl ?_
  refine j_sipush dX12_copy_3 (by decide) ?_
  refine j_icmp_ge (tgt := 21) h2 (j_r32 4903 rfl) dX12_copy_6 rfl (fun _ => ?_) (fun _ => ?_)
  · exact j_return dX12_copy_21
  · refine j_aload_n 1 dX12_copy_9 rfl rfl ?_
    refine j_iload_n 2 dX12_copy_10 rfl rfl ?_
    refine j_aload_n 0 dX12_copy_11 rfl rfl ?_
    refine j_iload_n 2 dX12_copy_12 rfl rfl ?_
    refine j_iaload h2 dX12_copy_13 (fun (v1 : Int) (hv1 : R32 (v1)) => ?_)
    refine j_iastore h2 hv1 dX12_copy_14 (fun S2 => ?_)
    refine j_iincL (q := 2) dX12_copy_15 rfl (Nat.le_of_ble_eq_true rfl) (fun v3 hv3 => ?_)
    refine j_lv (lv' := [(2, 0, v3), (0, 2, x0), (1, 2, x1)]) rfl ?_
    refine j_goto (tgt := 2) dX12_copy_18 rfl ?_
    refine j_sub [1, 2, 0] rfl ?_
    exact k2 x0 x1 v3 S2 h0 h1 hv3
def f_X12_copy_b2 : Int → Int → Int → jSt → Option (Int × jSt) := jrep (β := Int → Int → Int → jSt → Option (Int × jSt)) (fun _ _ _ _ => none) (fun r => f_X12_copy_b2B r) jN
theorem p_f_X12_copy_b2 {G : jG} {d : Nat} {S0 : jSt} (hd0 : 1 ≤ d) : ∀ (x0 : Int) (x1 : Int) (x2 : Int) (S : jSt), (0 ≤ (x0)) → (0 ≤ (x1)) → (R32 (x2)) → J G yX12_copy cX12_copy 3 none d S0 2 [(0, 2, x0), (1, 2, x1), (2, 0, x2)] [] S (f_X12_copy_b2  x0 x1 x2 S) :=
  jrep_ind (P := fun (r : Int → Int → Int → jSt → Option (Int × jSt)) => ∀ (x0 : Int) (x1 : Int) (x2 : Int) (S : jSt), (0 ≤ (x0)) → (0 ≤ (x1)) → (R32 (x2)) → J G yX12_copy cX12_copy 3 none d S0 2 [(0, 2, x0), (1, 2, x1), (2, 0, x2)] [] S (r x0 x1 x2 S)) (by intros; exact j_none) (fun r k => p_f_X12_copy_b2B hd0 k) jN
def f_X12_copy (a0 : Int) (a1 : Int) (S : jSt) : Option (Int × jSt) :=
  f_X12_copy_b2 a0 a1 0 S
theorem e_X12_copy {G : jG} {d : Nat} {S0 : jSt} (hd0 : 1 ≤ d) (a0 : Int) (a1 : Int) (S : jSt) (h0 : 0 ≤ (a0)) (h1 : 0 ≤ (a1)) : J G yX12_copy cX12_copy 3 none d S0 0 [(0, 2, a0), (1, 2, a1)] [] S (f_X12_copy a0 a1 S) := by
  unfold f_X12_copy
  refine j_iconst dX12_copy_0 ?_
  refine j_istore_n (lv' := [(2, 0, 0), (0, 2, a0), (1, 2, a1)]) dX12_copy_1 rfl (Nat.le_of_ble_eq_true rfl) rfl ?_
  refine j_sub [1, 2, 0] rfl ?_
  exact p_f_X12_copy_b2 hd0 a0 a1 0 S h0 h1 (jZ_R jz0)
theorem c_X12_copy {G : jG} (a0 : Int) (a1 : Int) (S : jSt) (h0 : 0 ≤ (a0)) (h1 : 0 ≤ (a1)) : CT G yX12_copy cX12_copy 3 none 1 ([(2, a0), (2, a1)].map jval) S (f_X12_copy a0 a1 S) := ct_of [(2, a0), (2, a1)] (by decide) rfl (Nat.le_of_ble_eq_true rfl) (e_X12_copy (Nat.le_refl _) a0 a1 S h0 h1)
-- X12_back
def f_X12_back (a0 : Int) (S : jSt) : Option (Int × jSt) :=
  fgetr S a0 12 1 (fun v1 => fgetr S a0 12 0 (fun v2 => fcall (f_X12_copy v1 v2 S) (fun v3 S4 => fgetr S4 a0 12 0 (fun v5 => fald S4 v5 7 1 (fun v6 => some (v6, S4))))))
theorem e_X12_back {G : jG} {d : Nat} {S0 : jSt} (hd0 : 2 ≤ d) (a0 : Int) (S : jSt) (h0 : 0 ≤ (a0)) : J G yX12_back cX12_back 1 (some .int) d S0 0 [(0, 2, a0)] [] S (f_X12_back a0 S) := by
  unfold f_X12_back
  refine j_aload_n 0 dX12_back_0 rfl rfl ?_
  refine j_getr (ci := 12) (k := 1) rfl in_X12 (Nat.le_of_ble_eq_true rfl) rfl rfl fl_X12_13 dX12_back_1 (fun (v1 : Int) (hv1 : 0 ≤ v1) => ?_)
  refine j_aload_n 0 dX12_back_4 rfl rfl ?_
  refine j_getr (ci := 12) (k := 0) rfl in_X12 (Nat.le_of_ble_eq_true rfl) rfl rfl fl_X12_7 dX12_back_5 (fun (v2 : Int) (hv2 : 0 ≤ v2) => ?_)
  refine j_callS (As := [(2, v1), (2, v2)]) (st := []) kc_X12_copy (c_X12_copy v1 v2 S hv1 hv2) lm_X12_56 ks_X12_copy rfl (Nat.le_of_ble_eq_true rfl) (Nat.le_trans (m := 2) (Nat.le_of_ble_eq_true rfl) hd0) dX12_back_8 (fun v3 S4 _ => ?_)
  refine j_aload_n 0 dX12_back_11 rfl rfl ?_
  refine j_getr (ci := 12) (k := 0) rfl in_X12 (Nat.le_of_ble_eq_true rfl) rfl rfl fl_X12_7 dX12_back_12 (fun (v5 : Int) (hv5 : 0 ≤ v5) => ?_)
  refine j_bipush dX12_back_15 (by decide) ?_
  refine j_iaload (j_r32 7 rfl) dX12_back_17 (fun (v6 : Int) (hv6 : R32 (v6)) => ?_)
  exact j_ireturn hv6 dX12_back_18
theorem c_X12_back {G : jG} (a0 : Int) (S : jSt) (h0 : 0 ≤ (a0)) : CT G yX12_back cX12_back 1 (some .int) 2 ([(2, a0)].map jval) S (f_X12_back a0 S) := ct_of [(2, a0)] (by decide) rfl (Nat.le_of_ble_eq_true rfl) (e_X12_back (Nat.le_refl _) a0 S h0)
-- X12_emit
def f_X12_emit (a0 : Int) (a1 : Int) (a2 : Int) (S : jSt) : Option (Int × jSt) :=
  fgetr S a0 12 2 (fun v1 => fget S a0 12 12 (fun v2 => fget S a0 12 13 (fun v3 => fast S v1 (w32 ((w32 (v2 + 97)) + (w32 (2 * v3)))) 1 a1 (fun S4 => fgetr S4 a0 12 2 (fun v5 => fget S4 a0 12 12 (fun v6 => fget S4 a0 12 13 (fun v7 => fast S4 v5 (w32 ((w32 ((w32 (v6 + 97)) + (w32 (2 * v7)))) + 1)) 1 a2 (fun S8 => fget S8 a0 12 13 (fun v9 => fput S8 a0 12 13 (w32 (v9 + 1)) (fun S10 => some (0, S10)))))))))))
theorem e_X12_emit {G : jG} {d : Nat} {S0 : jSt} (hd0 : 1 ≤ d) (a0 : Int) (a1 : Int) (a2 : Int) (S : jSt) (h0 : 0 ≤ (a0)) (h1 : R32 (a1)) (h2 : R32 (a2)) : J G yX12_emit cX12_emit 3 none d S0 0 [(0, 2, a0), (1, 0, a1), (2, 0, a2)] [] S (f_X12_emit a0 a1 a2 S) := by
  unfold f_X12_emit
  refine j_aload_n 0 dX12_emit_0 rfl rfl ?_
  refine j_getr (ci := 12) (k := 2) rfl in_X12 (Nat.le_of_ble_eq_true rfl) rfl rfl fl_X12_16 dX12_emit_1 (fun (v1 : Int) (hv1 : 0 ≤ v1) => ?_)
  refine j_aload_n 0 dX12_emit_4 rfl rfl ?_
  refine j_get (ci := 12) (k := 12) (t := 0) rfl in_X12 (Nat.le_of_ble_eq_true rfl) rfl rfl fl_X12_140 dX12_emit_5 (fun (v2 : Int) (hv2 : R32 (v2)) => ?_)
  refine j_bipush dX12_emit_8 (by decide) ?_
  refine j_iadd dX12_emit_10 ?_
  refine j_iconst dX12_emit_11 ?_
  refine j_aload_n 0 dX12_emit_12 rfl rfl ?_
  refine j_get (ci := 12) (k := 13) (t := 0) rfl in_X12 (Nat.le_of_ble_eq_true rfl) rfl rfl fl_X12_143 dX12_emit_13 (fun (v3 : Int) (hv3 : R32 (v3)) => ?_)
  refine j_imul dX12_emit_16 ?_
  refine j_iadd dX12_emit_17 ?_
  refine j_iload_n 1 dX12_emit_18 rfl rfl ?_
  refine j_iastore (w32_R _) h1 dX12_emit_19 (fun S4 => ?_)
  refine j_aload_n 0 dX12_emit_20 rfl rfl ?_
  refine j_getr (ci := 12) (k := 2) rfl in_X12 (Nat.le_of_ble_eq_true rfl) rfl rfl fl_X12_16 dX12_emit_21 (fun (v5 : Int) (hv5 : 0 ≤ v5) => ?_)
  refine j_aload_n 0 dX12_emit_24 rfl rfl ?_
  refine j_get (ci := 12) (k := 12) (t := 0) rfl in_X12 (Nat.le_of_ble_eq_true rfl) rfl rfl fl_X12_140 dX12_emit_25 (fun (v6 : Int) (hv6 : R32 (v6)) => ?_)
  refine j_bipush dX12_emit_28 (by decide) ?_
  refine j_iadd dX12_emit_30 ?_
  refine j_iconst dX12_emit_31 ?_
  refine j_aload_n 0 dX12_emit_32 rfl rfl ?_
  refine j_get (ci := 12) (k := 13) (t := 0) rfl in_X12 (Nat.le_of_ble_eq_true rfl) rfl rfl fl_X12_143 dX12_emit_33 (fun (v7 : Int) (hv7 : R32 (v7)) => ?_)
  refine j_imul dX12_emit_36 ?_
  refine j_iadd dX12_emit_37 ?_
  refine j_iconst dX12_emit_38 ?_
  refine j_iadd dX12_emit_39 ?_
  refine j_iload_n 2 dX12_emit_40 rfl rfl ?_
  refine j_iastore (w32_R _) h2 dX12_emit_41 (fun S8 => ?_)
  refine j_aload_n 0 dX12_emit_42 rfl rfl ?_
  refine j_dup dX12_emit_43 (fun h => nomatch h) ?_
  refine j_get (ci := 12) (k := 13) (t := 0) rfl in_X12 (Nat.le_of_ble_eq_true rfl) rfl rfl fl_X12_143 dX12_emit_44 (fun (v9 : Int) (hv9 : R32 (v9)) => ?_)
  refine j_iconst dX12_emit_47 ?_
  refine j_iadd dX12_emit_48 ?_
  refine j_puti (ci := 12) (k := 13) (ty0 := tyX12) rfl in_X12 (Nat.le_of_ble_eq_true rfl) rfl tyX12_ok nmX12 rfl rfl (by decide +kernel) (w32_R _) fl_X12_143 dX12_emit_49 (fun S10 => ?_)
  exact j_return dX12_emit_52
theorem c_X12_emit {G : jG} (a0 : Int) (a1 : Int) (a2 : Int) (S : jSt) (h0 : 0 ≤ (a0)) (h1 : R32 (a1)) (h2 : R32 (a2)) : CT G yX12_emit cX12_emit 3 none 1 ([(2, a0), (0, a1), (0, a2)].map jval) S (f_X12_emit a0 a1 a2 S) := ct_of [(2, a0), (0, a1), (0, a2)] (by decide) rfl (Nat.le_of_ble_eq_true rfl) (e_X12_emit (Nat.le_refl _) a0 a1 a2 S h0 h1 h2)
-- X12_isWord
def f_X12_isWord_b22 (x0 : Int) (S : jSt) : Option (Int × jSt) :=
  some (x0, S)
theorem p_f_X12_isWord_b22 {G : jG} {d : Nat} {S0 : jSt} (hd0 : 1 ≤ d) : ∀ (x0 : Int) (S : jSt), ((x0) = 0 ∨ (x0) = 1) → J G yX12_isWord cX12_isWord 3 (some .boolean) d S0 22 [] [(0, x0)] S (f_X12_isWord_b22  x0 S) := by
  intro x0 S h0
  unfold f_X12_isWord_b22
  exact j_zreturn h0 dX12_isWord_22
def f_X12_isWord_b21 (S : jSt) : Option (Int × jSt) :=
  f_X12_isWord_b22 0 S
theorem p_f_X12_isWord_b21 {G : jG} {d : Nat} {S0 : jSt} (hd0 : 1 ≤ d) : ∀ (S : jSt), J G yX12_isWord cX12_isWord 3 (some .boolean) d S0 21 [] [] S (f_X12_isWord_b21   S) := by
  intro S
  unfold f_X12_isWord_b21
  refine j_iconst dX12_isWord_21 ?_
  exact p_f_X12_isWord_b22 hd0 0 S jz0
def f_X12_isWord (a0 : Int) (a1 : Int) (S : jSt) : Option (Int × jSt) :=
  fget S a0 12 9 (fun v1 => if v1 = 2 then fget S a0 12 11 (fun v2 => if v2 = a1 then f_X12_isWord_b22 1 S else f_X12_isWord_b21 S) else f_X12_isWord_b21 S)
theorem e_X12_isWord {G : jG} {d : Nat} {S0 : jSt} (hd0 : 1 ≤ d) (a0 : Int) (a1 : Int) (S : jSt) (h0 : 0 ≤ (a0)) (h1 : R64 (a1)) : J G yX12_isWord cX12_isWord 3 (some .boolean) d S0 0 [(0, 2, a0), (1, 1, a1)] [] S (f_X12_isWord a0 a1 S) := by
  unfold f_X12_isWord
  refine j_aload_n 0 dX12_isWord_0 rfl rfl ?_
  refine j_get (ci := 12) (k := 9) (t := 0) rfl in_X12 (Nat.le_of_ble_eq_true rfl) rfl rfl fl_X12_102 dX12_isWord_1 (fun (v1 : Int) (hv1 : R32 (v1)) => ?_)
  refine j_iconst dX12_isWord_4 ?_
  refine j_icmp_ne (tgt := 21) hv1 (j_r32 2 rfl) dX12_isWord_5 rfl (fun _ => ?_) (fun _ => ?_)
  · refine j_sub [] rfl ?_
    exact p_f_X12_isWord_b21 hd0 S
  · refine j_aload_n 0 dX12_isWord_8 rfl rfl ?_
    refine j_get (ci := 12) (k := 11) (t := 1) rfl in_X12 (Nat.le_of_ble_eq_true rfl) rfl rfl fl_X12_115 dX12_isWord_9 (fun (v2 : Int) (hv2 : R64 (v2)) => ?_)
    refine j_lload_n 1 dX12_isWord_12 rfl rfl ?_
    refine j_lcmp_ne (tgt := 21) hv2 h1 dX12_isWord_13 dX12_isWord_14 rfl (fun _ => ?_) (fun _ => ?_)
    · refine j_sub [] rfl ?_
      exact p_f_X12_isWord_b21 hd0 S
    · refine j_iconst dX12_isWord_17 ?_
      refine j_goto (tgt := 22) dX12_isWord_18 rfl ?_
      refine j_sub [] rfl ?_
      exact p_f_X12_isWord_b22 hd0 1 S jz1
theorem c_X12_isWord {G : jG} (a0 : Int) (a1 : Int) (S : jSt) (h0 : 0 ≤ (a0)) (h1 : R64 (a1)) : CT G yX12_isWord cX12_isWord 3 (some .boolean) 1 ([(2, a0), (1, a1)].map jval) S (f_X12_isWord a0 a1 S) := ct_of [(2, a0), (1, a1)] (by decide) rfl (Nat.le_of_ble_eq_true rfl) (e_X12_isWord (Nat.le_refl _) a0 a1 S h0 h1)
-- X12_byteAt
def f_X12_byteAt_b18 (x0 : Int) (S : jSt) : Option (Int × jSt) :=
  some (x0, S)
theorem p_f_X12_byteAt_b18 {G : jG} {d : Nat} {S0 : jSt} (hd0 : 1 ≤ d) : ∀ (x0 : Int) (S : jSt), (R32 (x0)) → J G yX12_byteAt cX12_byteAt 2 (some .int) d S0 18 [] [(0, x0)] S (f_X12_byteAt_b18  x0 S) := by
  intro x0 S h0
  unfold f_X12_byteAt_b18
  exact j_ireturn h0 dX12_byteAt_18
def f_X12_byteAt (a0 : Int) (a1 : Int) (S : jSt) : Option (Int × jSt) :=
  fget S a0 12 4 (fun v1 => if v1 ≤ a1 then f_X12_byteAt_b18 (-1) S else fgetr S a0 12 3 (fun v2 => fald S v2 a1 1 (fun v3 => f_X12_byteAt_b18 v3 S)))
theorem e_X12_byteAt {G : jG} {d : Nat} {S0 : jSt} (hd0 : 1 ≤ d) (a0 : Int) (a1 : Int) (S : jSt) (h0 : 0 ≤ (a0)) (h1 : R32 (a1)) : J G yX12_byteAt cX12_byteAt 2 (some .int) d S0 0 [(0, 2, a0), (1, 0, a1)] [] S (f_X12_byteAt a0 a1 S) := by
  unfold f_X12_byteAt
  refine j_iload_n 1 dX12_byteAt_0 rfl rfl ?_
  refine j_aload_n 0 dX12_byteAt_1 rfl rfl ?_
  refine j_get (ci := 12) (k := 4) (t := 0) rfl in_X12 (Nat.le_of_ble_eq_true rfl) rfl rfl fl_X12_85 dX12_byteAt_2 (fun (v1 : Int) (hv1 : R32 (v1)) => ?_)
  refine j_icmp_ge (tgt := 17) h1 hv1 dX12_byteAt_5 rfl (fun _ => ?_) (fun _ => ?_)
  · refine j_iconst dX12_byteAt_17 ?_
    refine j_sub [] rfl ?_
    exact p_f_X12_byteAt_b18 hd0 (-1) S (j_r32 (-1) rfl)
  · refine j_aload_n 0 dX12_byteAt_8 rfl rfl ?_
    refine j_getr (ci := 12) (k := 3) rfl in_X12 (Nat.le_of_ble_eq_true rfl) rfl rfl fl_X12_19 dX12_byteAt_9 (fun (v2 : Int) (hv2 : 0 ≤ v2) => ?_)
    refine j_iload_n 1 dX12_byteAt_12 rfl rfl ?_
    refine j_iaload h1 dX12_byteAt_13 (fun (v3 : Int) (hv3 : R32 (v3)) => ?_)
    refine j_goto (tgt := 18) dX12_byteAt_14 rfl ?_
    refine j_sub [] rfl ?_
    exact p_f_X12_byteAt_b18 hd0 v3 S hv3
theorem c_X12_byteAt {G : jG} (a0 : Int) (a1 : Int) (S : jSt) (h0 : 0 ≤ (a0)) (h1 : R32 (a1)) : CT G yX12_byteAt cX12_byteAt 2 (some .int) 1 ([(2, a0), (0, a1)].map jval) S (f_X12_byteAt a0 a1 S) := ct_of [(2, a0), (0, a1)] (by decide) rfl (Nat.le_of_ble_eq_true rfl) (e_X12_byteAt (Nat.le_refl _) a0 a1 S h0 h1)
-- X12_isFigure
def f_X12_isFigure_b17 (x0 : Int) (S : jSt) : Option (Int × jSt) :=
  some (x0, S)
theorem p_f_X12_isFigure_b17 {G : jG} {d : Nat} {S0 : jSt} (hd0 : 1 ≤ d) : ∀ (x0 : Int) (S : jSt), ((x0) = 0 ∨ (x0) = 1) → J G yX12_isFigure cX12_isFigure 1 (some .boolean) d S0 17 [] [(0, x0)] S (f_X12_isFigure_b17  x0 S) := by
  intro x0 S h0
  unfold f_X12_isFigure_b17
  exact j_zreturn h0 dX12_isFigure_17
def f_X12_isFigure_b16 (S : jSt) : Option (Int × jSt) :=
  f_X12_isFigure_b17 0 S
theorem p_f_X12_isFigure_b16 {G : jG} {d : Nat} {S0 : jSt} (hd0 : 1 ≤ d) : ∀ (S : jSt), J G yX12_isFigure cX12_isFigure 1 (some .boolean) d S0 16 [] [] S (f_X12_isFigure_b16   S) := by
  intro S
  unfold f_X12_isFigure_b16
  refine j_iconst dX12_isFigure_16 ?_
  exact p_f_X12_isFigure_b17 hd0 0 S jz0
def f_X12_isFigure (a0 : Int) (S : jSt) : Option (Int × jSt) :=
  if a0 < 48 then f_X12_isFigure_b16 S else if 57 < a0 then f_X12_isFigure_b16 S else f_X12_isFigure_b17 1 S
theorem e_X12_isFigure {G : jG} {d : Nat} {S0 : jSt} (hd0 : 1 ≤ d) (a0 : Int) (S : jSt) (h0 : R32 (a0)) : J G yX12_isFigure cX12_isFigure 1 (some .boolean) d S0 0 [(0, 0, a0)] [] S (f_X12_isFigure a0 S) := by
  unfold f_X12_isFigure
  refine j_iload_n 0 dX12_isFigure_0 rfl rfl ?_
  refine j_bipush dX12_isFigure_1 (by decide) ?_
  refine j_icmp_lt (tgt := 16) h0 (j_r32 48 rfl) dX12_isFigure_3 rfl (fun _ => ?_) (fun _ => ?_)
  · refine j_sub [] rfl ?_
    exact p_f_X12_isFigure_b16 hd0 S
  · refine j_iload_n 0 dX12_isFigure_6 rfl rfl ?_
    refine j_bipush dX12_isFigure_7 (by decide) ?_
    refine j_icmp_gt (tgt := 16) h0 (j_r32 57 rfl) dX12_isFigure_9 rfl (fun _ => ?_) (fun _ => ?_)
    · refine j_sub [] rfl ?_
      exact p_f_X12_isFigure_b16 hd0 S
    · refine j_iconst dX12_isFigure_12 ?_
      refine j_goto (tgt := 17) dX12_isFigure_13 rfl ?_
      refine j_sub [] rfl ?_
      exact p_f_X12_isFigure_b17 hd0 1 S jz1
theorem c_X12_isFigure {G : jG} (a0 : Int) (S : jSt) (h0 : R32 (a0)) : CT G yX12_isFigure cX12_isFigure 1 (some .boolean) 1 ([(0, a0)].map jval) S (f_X12_isFigure a0 S) := ct_of [(0, a0)] (by decide) rfl (Nat.le_of_ble_eq_true rfl) (e_X12_isFigure (Nat.le_refl _) a0 S h0)
-- X12_isLetterByte
def f_X12_isLetterByte_b29 (x0 : Int) (S : jSt) : Option (Int × jSt) :=
  some (x0, S)
theorem p_f_X12_isLetterByte_b29 {G : jG} {d : Nat} {S0 : jSt} (hd0 : 1 ≤ d) : ∀ (x0 : Int) (S : jSt), ((x0) = 0 ∨ (x0) = 1) → J G yX12_isLetterByte cX12_isLetterByte 1 (some .boolean) d S0 29 [] [(0, x0)] S (f_X12_isLetterByte_b29  x0 S) := by
  intro x0 S h0
  unfold f_X12_isLetterByte_b29
  exact j_zreturn h0 dX12_isLetterByte_29
def f_X12_isLetterByte_b28 (S : jSt) : Option (Int × jSt) :=
  f_X12_isLetterByte_b29 0 S
theorem p_f_X12_isLetterByte_b28 {G : jG} {d : Nat} {S0 : jSt} (hd0 : 1 ≤ d) : ∀ (S : jSt), J G yX12_isLetterByte cX12_isLetterByte 1 (some .boolean) d S0 28 [] [] S (f_X12_isLetterByte_b28   S) := by
  intro S
  unfold f_X12_isLetterByte_b28
  refine j_iconst dX12_isLetterByte_28 ?_
  exact p_f_X12_isLetterByte_b29 hd0 0 S jz0
def f_X12_isLetterByte_b24 (S : jSt) : Option (Int × jSt) :=
  f_X12_isLetterByte_b29 1 S
theorem p_f_X12_isLetterByte_b24 {G : jG} {d : Nat} {S0 : jSt} (hd0 : 1 ≤ d) : ∀ (S : jSt), J G yX12_isLetterByte cX12_isLetterByte 1 (some .boolean) d S0 24 [] [] S (f_X12_isLetterByte_b24   S) := by
  intro S
  unfold f_X12_isLetterByte_b24
  refine j_iconst dX12_isLetterByte_24 ?_
  refine j_goto (tgt := 29) dX12_isLetterByte_25 rfl ?_
  exact p_f_X12_isLetterByte_b29 hd0 1 S jz1
def f_X12_isLetterByte_b12 (x0 : Int) (S : jSt) : Option (Int × jSt) :=
  if x0 < 65 then f_X12_isLetterByte_b28 S else if 90 < x0 then f_X12_isLetterByte_b28 S else f_X12_isLetterByte_b24 S
theorem p_f_X12_isLetterByte_b12 {G : jG} {d : Nat} {S0 : jSt} (hd0 : 1 ≤ d) : ∀ (x0 : Int) (S : jSt), (R32 (x0)) → J G yX12_isLetterByte cX12_isLetterByte 1 (some .boolean) d S0 12 [(0, 0, x0)] [] S (f_X12_isLetterByte_b12  x0 S) := by
  intro x0 S h0
  unfold f_X12_isLetterByte_b12
  refine j_iload_n 0 dX12_isLetterByte_12 rfl rfl ?_
  refine j_bipush dX12_isLetterByte_13 (by decide) ?_
  refine j_icmp_lt (tgt := 28) h0 (j_r32 65 rfl) dX12_isLetterByte_15 rfl (fun _ => ?_) (fun _ => ?_)
  · refine j_sub [] rfl ?_
    exact p_f_X12_isLetterByte_b28 hd0 S
  · refine j_iload_n 0 dX12_isLetterByte_18 rfl rfl ?_
    refine j_bipush dX12_isLetterByte_19 (by decide) ?_
    refine j_icmp_gt (tgt := 28) h0 (j_r32 90 rfl) dX12_isLetterByte_21 rfl (fun _ => ?_) (fun _ => ?_)
    · refine j_sub [] rfl ?_
      exact p_f_X12_isLetterByte_b28 hd0 S
    · refine j_sub [] rfl ?_
      exact p_f_X12_isLetterByte_b24 hd0 S
def f_X12_isLetterByte (a0 : Int) (S : jSt) : Option (Int × jSt) :=
  if a0 < 97 then f_X12_isLetterByte_b12 a0 S else if a0 ≤ 122 then f_X12_isLetterByte_b24 S else f_X12_isLetterByte_b12 a0 S
theorem e_X12_isLetterByte {G : jG} {d : Nat} {S0 : jSt} (hd0 : 1 ≤ d) (a0 : Int) (S : jSt) (h0 : R32 (a0)) : J G yX12_isLetterByte cX12_isLetterByte 1 (some .boolean) d S0 0 [(0, 0, a0)] [] S (f_X12_isLetterByte a0 S) := by
  unfold f_X12_isLetterByte
  refine j_iload_n 0 dX12_isLetterByte_0 rfl rfl ?_
  refine j_bipush dX12_isLetterByte_1 (by decide) ?_
  refine j_icmp_lt (tgt := 12) h0 (j_r32 97 rfl) dX12_isLetterByte_3 rfl (fun _ => ?_) (fun _ => ?_)
  · exact p_f_X12_isLetterByte_b12 hd0 a0 S h0
  · refine j_iload_n 0 dX12_isLetterByte_6 rfl rfl ?_
    refine j_bipush dX12_isLetterByte_7 (by decide) ?_
    refine j_icmp_le (tgt := 24) h0 (j_r32 122 rfl) dX12_isLetterByte_9 rfl (fun _ => ?_) (fun _ => ?_)
    · refine j_sub [] rfl ?_
      exact p_f_X12_isLetterByte_b24 hd0 S
    · exact p_f_X12_isLetterByte_b12 hd0 a0 S h0
theorem c_X12_isLetterByte {G : jG} (a0 : Int) (S : jSt) (h0 : R32 (a0)) : CT G yX12_isLetterByte cX12_isLetterByte 1 (some .boolean) 1 ([(0, a0)].map jval) S (f_X12_isLetterByte a0 S) := ct_of [(0, a0)] (by decide) rfl (Nat.le_of_ble_eq_true rfl) (e_X12_isLetterByte (Nat.le_refl _) a0 S h0)
-- X12_isSign
def f_X12_isSign_b128 (S : jSt) : Option (Int × jSt) :=
  some (1, S)
theorem p_f_X12_isSign_b128 {G : jG} {d : Nat} {S0 : jSt} (hd0 : 1 ≤ d) : ∀ (S : jSt), J G yX12_isSign cX12_isSign 1 (some .boolean) d S0 128 [] [] S (f_X12_isSign_b128   S) := by
  intro S
  unfold f_X12_isSign_b128
  refine j_iconst dX12_isSign_128 ?_
  exact j_zreturn jz1 dX12_isSign_129
def f_X12_isSign_b130 (S : jSt) : Option (Int × jSt) :=
  some (0, S)
theorem p_f_X12_isSign_b130 {G : jG} {d : Nat} {S0 : jSt} (hd0 : 1 ≤ d) : ∀ (S : jSt), J G yX12_isSign cX12_isSign 1 (some .boolean) d S0 130 [] [] S (f_X12_isSign_b130   S) := by
  intro S
  unfold f_X12_isSign_b130
  refine j_iconst dX12_isSign_130 ?_
  exact j_zreturn jz0 dX12_isSign_131
def f_X12_isSign (a0 : Int) (S : jSt) : Option (Int × jSt) :=
  if a0 = 35 then f_X12_isSign_b128 S else if a0 = 36 then f_X12_isSign_b130 S else if a0 = 37 then f_X12_isSign_b130 S else if a0 = 38 then f_X12_isSign_b130 S else if a0 = 39 then f_X12_isSign_b130 S else if a0 = 40 then f_X12_isSign_b128 S else if a0 = 41 then f_X12_isSign_b128 S else if a0 = 42 then f_X12_isSign_b128 S else if a0 = 43 then f_X12_isSign_b128 S else if a0 = 44 then f_X12_isSign_b130 S else if a0 = 45 then f_X12_isSign_b128 S else if a0 = 46 then f_X12_isSign_b130 S else if a0 = 47 then f_X12_isSign_b128 S else if a0 = 48 then f_X12_isSign_b130 S else if a0 = 49 then f_X12_isSign_b130 S else if a0 = 50 then f_X12_isSign_b130 S else if a0 = 51 then f_X12_isSign_b130 S else if a0 = 52 then f_X12_isSign_b130 S else if a0 = 53 then f_X12_isSign_b130 S else if a0 = 54 then f_X12_isSign_b130 S else if a0 = 55 then f_X12_isSign_b130 S else if a0 = 56 then f_X12_isSign_b130 S else if a0 = 57 then f_X12_isSign_b130 S else if a0 = 58 then f_X12_isSign_b128 S else if a0 = 59 then f_X12_isSign_b128 S else if a0 = 60 then f_X12_isSign_b128 S else if a0 = 61 then f_X12_isSign_b128 S else if a0 = 62 then f_X12_isSign_b128 S else f_X12_isSign_b130 S
theorem e_X12_isSign {G : jG} {d : Nat} {S0 : jSt} (hd0 : 1 ≤ d) (a0 : Int) (S : jSt) (h0 : R32 (a0)) : J G yX12_isSign cX12_isSign 1 (some .boolean) d S0 0 [(0, 0, a0)] [] S (f_X12_isSign a0 S) := by
  unfold f_X12_isSign
  refine j_iload_n 0 dX12_isSign_0 rfl rfl ?_
  refine j_ite (fun hc0 => ?_) (fun hc0 => ?_)
  · refine j_tableIn (tgt := 128) (off := 127) h0 dX12_isSign_1 (by omega) (by omega) (by rw [hc0]; rfl) rfl ?_
    refine j_sub [] rfl ?_
    exact p_f_X12_isSign_b128 hd0 S
  refine j_ite (fun hc1 => ?_) (fun hc1 => ?_)
  · refine j_tableIn (tgt := 130) (off := 129) h0 dX12_isSign_1 (by omega) (by omega) (by rw [hc1]; rfl) rfl ?_
    refine j_sub [] rfl ?_
    exact p_f_X12_isSign_b130 hd0 S
  refine j_ite (fun hc2 => ?_) (fun hc2 => ?_)
  · refine j_tableIn (tgt := 130) (off := 129) h0 dX12_isSign_1 (by omega) (by omega) (by rw [hc2]; rfl) rfl ?_
    refine j_sub [] rfl ?_
    exact p_f_X12_isSign_b130 hd0 S
  refine j_ite (fun hc3 => ?_) (fun hc3 => ?_)
  · refine j_tableIn (tgt := 130) (off := 129) h0 dX12_isSign_1 (by omega) (by omega) (by rw [hc3]; rfl) rfl ?_
    refine j_sub [] rfl ?_
    exact p_f_X12_isSign_b130 hd0 S
  refine j_ite (fun hc4 => ?_) (fun hc4 => ?_)
  · refine j_tableIn (tgt := 130) (off := 129) h0 dX12_isSign_1 (by omega) (by omega) (by rw [hc4]; rfl) rfl ?_
    refine j_sub [] rfl ?_
    exact p_f_X12_isSign_b130 hd0 S
  refine j_ite (fun hc5 => ?_) (fun hc5 => ?_)
  · refine j_tableIn (tgt := 128) (off := 127) h0 dX12_isSign_1 (by omega) (by omega) (by rw [hc5]; rfl) rfl ?_
    refine j_sub [] rfl ?_
    exact p_f_X12_isSign_b128 hd0 S
  refine j_ite (fun hc6 => ?_) (fun hc6 => ?_)
  · refine j_tableIn (tgt := 128) (off := 127) h0 dX12_isSign_1 (by omega) (by omega) (by rw [hc6]; rfl) rfl ?_
    refine j_sub [] rfl ?_
    exact p_f_X12_isSign_b128 hd0 S
  refine j_ite (fun hc7 => ?_) (fun hc7 => ?_)
  · refine j_tableIn (tgt := 128) (off := 127) h0 dX12_isSign_1 (by omega) (by omega) (by rw [hc7]; rfl) rfl ?_
    refine j_sub [] rfl ?_
    exact p_f_X12_isSign_b128 hd0 S
  refine j_ite (fun hc8 => ?_) (fun hc8 => ?_)
  · refine j_tableIn (tgt := 128) (off := 127) h0 dX12_isSign_1 (by omega) (by omega) (by rw [hc8]; rfl) rfl ?_
    refine j_sub [] rfl ?_
    exact p_f_X12_isSign_b128 hd0 S
  refine j_ite (fun hc9 => ?_) (fun hc9 => ?_)
  · refine j_tableIn (tgt := 130) (off := 129) h0 dX12_isSign_1 (by omega) (by omega) (by rw [hc9]; rfl) rfl ?_
    refine j_sub [] rfl ?_
    exact p_f_X12_isSign_b130 hd0 S
  refine j_ite (fun hc10 => ?_) (fun hc10 => ?_)
  · refine j_tableIn (tgt := 128) (off := 127) h0 dX12_isSign_1 (by omega) (by omega) (by rw [hc10]; rfl) rfl ?_
    refine j_sub [] rfl ?_
    exact p_f_X12_isSign_b128 hd0 S
  refine j_ite (fun hc11 => ?_) (fun hc11 => ?_)
  · refine j_tableIn (tgt := 130) (off := 129) h0 dX12_isSign_1 (by omega) (by omega) (by rw [hc11]; rfl) rfl ?_
    refine j_sub [] rfl ?_
    exact p_f_X12_isSign_b130 hd0 S
  refine j_ite (fun hc12 => ?_) (fun hc12 => ?_)
  · refine j_tableIn (tgt := 128) (off := 127) h0 dX12_isSign_1 (by omega) (by omega) (by rw [hc12]; rfl) rfl ?_
    refine j_sub [] rfl ?_
    exact p_f_X12_isSign_b128 hd0 S
  refine j_ite (fun hc13 => ?_) (fun hc13 => ?_)
  · refine j_tableIn (tgt := 130) (off := 129) h0 dX12_isSign_1 (by omega) (by omega) (by rw [hc13]; rfl) rfl ?_
    refine j_sub [] rfl ?_
    exact p_f_X12_isSign_b130 hd0 S
  refine j_ite (fun hc14 => ?_) (fun hc14 => ?_)
  · refine j_tableIn (tgt := 130) (off := 129) h0 dX12_isSign_1 (by omega) (by omega) (by rw [hc14]; rfl) rfl ?_
    refine j_sub [] rfl ?_
    exact p_f_X12_isSign_b130 hd0 S
  refine j_ite (fun hc15 => ?_) (fun hc15 => ?_)
  · refine j_tableIn (tgt := 130) (off := 129) h0 dX12_isSign_1 (by omega) (by omega) (by rw [hc15]; rfl) rfl ?_
    refine j_sub [] rfl ?_
    exact p_f_X12_isSign_b130 hd0 S
  refine j_ite (fun hc16 => ?_) (fun hc16 => ?_)
  · refine j_tableIn (tgt := 130) (off := 129) h0 dX12_isSign_1 (by omega) (by omega) (by rw [hc16]; rfl) rfl ?_
    refine j_sub [] rfl ?_
    exact p_f_X12_isSign_b130 hd0 S
  refine j_ite (fun hc17 => ?_) (fun hc17 => ?_)
  · refine j_tableIn (tgt := 130) (off := 129) h0 dX12_isSign_1 (by omega) (by omega) (by rw [hc17]; rfl) rfl ?_
    refine j_sub [] rfl ?_
    exact p_f_X12_isSign_b130 hd0 S
  refine j_ite (fun hc18 => ?_) (fun hc18 => ?_)
  · refine j_tableIn (tgt := 130) (off := 129) h0 dX12_isSign_1 (by omega) (by omega) (by rw [hc18]; rfl) rfl ?_
    refine j_sub [] rfl ?_
    exact p_f_X12_isSign_b130 hd0 S
  refine j_ite (fun hc19 => ?_) (fun hc19 => ?_)
  · refine j_tableIn (tgt := 130) (off := 129) h0 dX12_isSign_1 (by omega) (by omega) (by rw [hc19]; rfl) rfl ?_
    refine j_sub [] rfl ?_
    exact p_f_X12_isSign_b130 hd0 S
  refine j_ite (fun hc20 => ?_) (fun hc20 => ?_)
  · refine j_tableIn (tgt := 130) (off := 129) h0 dX12_isSign_1 (by omega) (by omega) (by rw [hc20]; rfl) rfl ?_
    refine j_sub [] rfl ?_
    exact p_f_X12_isSign_b130 hd0 S
  refine j_ite (fun hc21 => ?_) (fun hc21 => ?_)
  · refine j_tableIn (tgt := 130) (off := 129) h0 dX12_isSign_1 (by omega) (by omega) (by rw [hc21]; rfl) rfl ?_
    refine j_sub [] rfl ?_
    exact p_f_X12_isSign_b130 hd0 S
  refine j_ite (fun hc22 => ?_) (fun hc22 => ?_)
  · refine j_tableIn (tgt := 130) (off := 129) h0 dX12_isSign_1 (by omega) (by omega) (by rw [hc22]; rfl) rfl ?_
    refine j_sub [] rfl ?_
    exact p_f_X12_isSign_b130 hd0 S
  refine j_ite (fun hc23 => ?_) (fun hc23 => ?_)
  · refine j_tableIn (tgt := 128) (off := 127) h0 dX12_isSign_1 (by omega) (by omega) (by rw [hc23]; rfl) rfl ?_
    refine j_sub [] rfl ?_
    exact p_f_X12_isSign_b128 hd0 S
  refine j_ite (fun hc24 => ?_) (fun hc24 => ?_)
  · refine j_tableIn (tgt := 128) (off := 127) h0 dX12_isSign_1 (by omega) (by omega) (by rw [hc24]; rfl) rfl ?_
    refine j_sub [] rfl ?_
    exact p_f_X12_isSign_b128 hd0 S
  refine j_ite (fun hc25 => ?_) (fun hc25 => ?_)
  · refine j_tableIn (tgt := 128) (off := 127) h0 dX12_isSign_1 (by omega) (by omega) (by rw [hc25]; rfl) rfl ?_
    refine j_sub [] rfl ?_
    exact p_f_X12_isSign_b128 hd0 S
  refine j_ite (fun hc26 => ?_) (fun hc26 => ?_)
  · refine j_tableIn (tgt := 128) (off := 127) h0 dX12_isSign_1 (by omega) (by omega) (by rw [hc26]; rfl) rfl ?_
    refine j_sub [] rfl ?_
    exact p_f_X12_isSign_b128 hd0 S
  refine j_ite (fun hc27 => ?_) (fun hc27 => ?_)
  · refine j_tableIn (tgt := 128) (off := 127) h0 dX12_isSign_1 (by omega) (by omega) (by rw [hc27]; rfl) rfl ?_
    refine j_sub [] rfl ?_
    exact p_f_X12_isSign_b128 hd0 S
  refine j_tableOut (tgt := 130) h0 dX12_isSign_1 (by omega) rfl ?_
  refine j_sub [] rfl ?_
  exact p_f_X12_isSign_b130 hd0 S
theorem c_X12_isSign {G : jG} (a0 : Int) (S : jSt) (h0 : R32 (a0)) : CT G yX12_isSign cX12_isSign 1 (some .boolean) 1 ([(0, a0)].map jval) S (f_X12_isSign a0 S) := ct_of [(0, a0)] (by decide) rfl (Nat.le_of_ble_eq_true rfl) (e_X12_isSign (Nat.le_refl _) a0 S h0)
-- X12_nextToken
def f_X12_nextToken_b26 (r0 : Int → jSt → Option (Int × jSt)) (x0 : Int) (S : jSt) : Option (Int × jSt) :=
  fget S x0 12 7 (fun v4 => fput S x0 12 7 (w32 (v4 + 1)) (fun S5 => r0 x0 S5))
theorem p_f_X12_nextToken_b26 {G : jG} {d : Nat} {S0 : jSt} (hd0 : 2 ≤ d) {r0 : Int → jSt → Option (Int × jSt)} (k0 : ∀ (x0 : Int) (S : jSt), (0 ≤ (x0)) → J G yX12_nextToken cX12_nextToken 2 none d S0 0 [(0, 2, x0)] [] S (r0 x0 S)) : ∀ (x0 : Int) (S : jSt), (0 ≤ (x0)) → J G yX12_nextToken cX12_nextToken 2 none d S0 26 [(0, 2, x0)] [] S (f_X12_nextToken_b26 r0 x0 S) := by
  intro x0 S h0
  unfold f_X12_nextToken_b26
  refine j_aload_n 0 dX12_nextToken_26 rfl rfl ?_
  refine j_dup dX12_nextToken_27 (fun h => nomatch h) ?_
  refine j_get (ci := 12) (k := 7) (t := 0) rfl in_X12 (Nat.le_of_ble_eq_true rfl) rfl rfl fl_X12_92 dX12_nextToken_28 (fun (v4 : Int) (hv4 : R32 (v4)) => ?_)
  refine j_iconst dX12_nextToken_31 ?_
  refine j_iadd dX12_nextToken_32 ?_
  refine j_puti (ci := 12) (k := 7) (ty0 := tyX12) rfl in_X12 (Nat.le_of_ble_eq_true rfl) rfl tyX12_ok nmX12 rfl rfl (by decide +kernel) (w32_R _) fl_X12_92 dX12_nextToken_33 (fun S5 => ?_)
  refine j_goto (tgt := 0) dX12_nextToken_36 rfl ?_
  exact k0 x0 S5 h0
def f_X12_nextToken_b310 (S : jSt) : Option (Int × jSt) :=
  some (0, S)
theorem p_f_X12_nextToken_b310 {G : jG} {d : Nat} {S0 : jSt} (hd0 : 2 ≤ d) : ∀ (S : jSt), J G yX12_nextToken cX12_nextToken 2 none d S0 310 [] [] S (f_X12_nextToken_b310   S) := by
  intro S
  unfold f_X12_nextToken_b310
  exact j_return dX12_nextToken_310
def f_X12_nextToken_b297 (x0 : Int) (x1 : Int) (x2 : Int) (S : jSt) : Option (Int × jSt) :=
  fput S x1 12 9 x2 (fun S26 => fget S26 x0 12 7 (fun v27 => fput S26 x0 12 7 (w32 (v27 + 1)) (fun S28 => f_X12_nextToken_b310 S28)))
theorem p_f_X12_nextToken_b297 {G : jG} {d : Nat} {S0 : jSt} (hd0 : 2 ≤ d) : ∀ (x0 : Int) (x1 : Int) (x2 : Int) (S : jSt), (0 ≤ (x0)) → (0 ≤ (x1)) → (R32 (x2)) → J G yX12_nextToken cX12_nextToken 2 none d S0 297 [(0, 2, x0)] [(0, x2), (2, x1)] S (f_X12_nextToken_b297  x0 x1 x2 S) := by
  intro x0 x1 x2 S h0 h1 h2
  unfold f_X12_nextToken_b297
  refine j_puti (ci := 12) (k := 9) (ty0 := tyX12) rfl in_X12 (Nat.le_of_ble_eq_true rfl) rfl tyX12_ok nmX12 rfl rfl (by decide +kernel) h2 fl_X12_102 dX12_nextToken_297 (fun S26 => ?_)
  refine j_aload_n 0 dX12_nextToken_300 rfl rfl ?_
  refine j_dup dX12_nextToken_301 (fun h => nomatch h) ?_
  refine j_get (ci := 12) (k := 7) (t := 0) rfl in_X12 (Nat.le_of_ble_eq_true rfl) rfl rfl fl_X12_92 dX12_nextToken_302 (fun (v27 : Int) (hv27 : R32 (v27)) => ?_)
  refine j_iconst dX12_nextToken_305 ?_
  refine j_iadd dX12_nextToken_306 ?_
  refine j_puti (ci := 12) (k := 7) (ty0 := tyX12) rfl in_X12 (Nat.le_of_ble_eq_true rfl) rfl tyX12_ok nmX12 rfl rfl (by decide +kernel) (w32_R _) fl_X12_92 dX12_nextToken_307 (fun S28 => ?_)
  refine j_sub [] rfl ?_
  exact p_f_X12_nextToken_b310 hd0 S28
def f_X12_nextToken_b272 (x0 : Int) (x1 : Int) (S : jSt) : Option (Int × jSt) :=
  fget S x0 12 7 (fun v23 => fcallv S x0 12 (f_X12_byteAt x0 v23 S) (fun v24 S25 => if v24 = 61 then if x1 = 60 then f_X12_nextToken_b297 x0 x0 4 S25 else f_X12_nextToken_b297 x0 x0 5 S25 else f_X12_nextToken_b310 S25))
theorem p_f_X12_nextToken_b272 {G : jG} {d : Nat} {S0 : jSt} (hd0 : 2 ≤ d) : ∀ (x0 : Int) (x1 : Int) (S : jSt), (0 ≤ (x0)) → (R32 (x1)) → J G yX12_nextToken cX12_nextToken 2 none d S0 272 [(0, 2, x0), (1, 0, x1)] [] S (f_X12_nextToken_b272  x0 x1 S) := by
  intro x0 x1 S h0 h1
  unfold f_X12_nextToken_b272
  refine j_aload_n 0 dX12_nextToken_272 rfl rfl ?_
  refine j_aload_n 0 dX12_nextToken_273 rfl rfl ?_
  refine j_get (ci := 12) (k := 7) (t := 0) rfl in_X12 (Nat.le_of_ble_eq_true rfl) rfl rfl fl_X12_92 dX12_nextToken_274 (fun (v23 : Int) (hv23 : R32 (v23)) => ?_)
  refine j_callV (ci := 12) (As := [(0, v23)]) (st := []) kc_X12_byteAt (c_X12_byteAt x0 v23 S h0 hv23) rfl lm_X12_95 ki_X12_byteAt ke_X12_byteAt rfl (Nat.le_of_ble_eq_true rfl) (Nat.le_trans (m := 2) (Nat.le_of_ble_eq_true rfl) hd0) dX12_nextToken_277 (fun (v24 : Int) (S25 : jSt) (hv24 : R32 (v24)) => ?_)
  refine j_bipush dX12_nextToken_280 (by decide) ?_
  refine j_icmp_ne (tgt := 310) hv24 (j_r32 61 rfl) dX12_nextToken_282 rfl (fun _ => ?_) (fun _ => ?_)
  · refine j_sub [] rfl ?_
    exact p_f_X12_nextToken_b310 hd0 S25
  · refine j_aload_n 0 dX12_nextToken_285 rfl rfl ?_
    refine j_iload_n 1 dX12_nextToken_286 rfl rfl ?_
    refine j_bipush dX12_nextToken_287 (by decide) ?_
    refine j_icmp_ne (tgt := 296) h1 (j_r32 60 rfl) dX12_nextToken_289 rfl (fun _ => ?_) (fun _ => ?_)
    · refine j_iconst dX12_nextToken_296 ?_
      refine j_sub [0] rfl ?_
      exact p_f_X12_nextToken_b297 hd0 x0 x0 5 S25 h0 h0 (j_r32 5 rfl)
    · refine j_iconst dX12_nextToken_292 ?_
      refine j_goto (tgt := 297) dX12_nextToken_293 rfl ?_
      refine j_sub [0] rfl ?_
      exact p_f_X12_nextToken_b297 hd0 x0 x0 4 S25 h0 h0 (j_r32 4 rfl)
def f_X12_nextToken_b247 (x0 : Int) (x1 : Int) (x2 : Int) (x3 : Int) (S : jSt) : Option (Int × jSt) :=
  fput S x2 12 9 x3 (fun S20 => fget S20 x0 12 7 (fun v21 => fput S20 x0 12 7 (w32 (v21 + 1)) (fun S22 => if x1 = 60 then f_X12_nextToken_b272 x0 x1 S22 else if x1 = 62 then f_X12_nextToken_b272 x0 x1 S22 else f_X12_nextToken_b310 S22)))
theorem p_f_X12_nextToken_b247 {G : jG} {d : Nat} {S0 : jSt} (hd0 : 2 ≤ d) : ∀ (x0 : Int) (x1 : Int) (x2 : Int) (x3 : Int) (S : jSt), (0 ≤ (x0)) → (R32 (x1)) → (0 ≤ (x2)) → (R32 (x3)) → J G yX12_nextToken cX12_nextToken 2 none d S0 247 [(0, 2, x0), (1, 0, x1)] [(0, x3), (2, x2)] S (f_X12_nextToken_b247  x0 x1 x2 x3 S) := by
  intro x0 x1 x2 x3 S h0 h1 h2 h3
  unfold f_X12_nextToken_b247
  refine j_puti (ci := 12) (k := 9) (ty0 := tyX12) rfl in_X12 (Nat.le_of_ble_eq_true rfl) rfl tyX12_ok nmX12 rfl rfl (by decide +kernel) h3 fl_X12_102 dX12_nextToken_247 (fun S20 => ?_)
  refine j_aload_n 0 dX12_nextToken_250 rfl rfl ?_
  refine j_dup dX12_nextToken_251 (fun h => nomatch h) ?_
  refine j_get (ci := 12) (k := 7) (t := 0) rfl in_X12 (Nat.le_of_ble_eq_true rfl) rfl rfl fl_X12_92 dX12_nextToken_252 (fun (v21 : Int) (hv21 : R32 (v21)) => ?_)
  refine j_iconst dX12_nextToken_255 ?_
  refine j_iadd dX12_nextToken_256 ?_
  refine j_puti (ci := 12) (k := 7) (ty0 := tyX12) rfl in_X12 (Nat.le_of_ble_eq_true rfl) rfl tyX12_ok nmX12 rfl rfl (by decide +kernel) (w32_R _) fl_X12_92 dX12_nextToken_257 (fun S22 => ?_)
  refine j_iload_n 1 dX12_nextToken_260 rfl rfl ?_
  refine j_bipush dX12_nextToken_261 (by decide) ?_
  refine j_icmp_eq (tgt := 272) h1 (j_r32 60 rfl) dX12_nextToken_263 rfl (fun _ => ?_) (fun _ => ?_)
  · exact p_f_X12_nextToken_b272 hd0 x0 x1 S22 h0 h1
  · refine j_iload_n 1 dX12_nextToken_266 rfl rfl ?_
    refine j_bipush dX12_nextToken_267 (by decide) ?_
    refine j_icmp_ne (tgt := 310) h1 (j_r32 62 rfl) dX12_nextToken_269 rfl (fun _ => ?_) (fun _ => ?_)
    · refine j_sub [] rfl ?_
      exact p_f_X12_nextToken_b310 hd0 S22
    · exact p_f_X12_nextToken_b272 hd0 x0 x1 S22 h0 h1
def f_X12_nextToken_b218 (r168 : Int → jSt → Option (Int × jSt)) (x0 : Int) (x1 : Int) (x2 : Int) (S : jSt) : Option (Int × jSt) :=
  fput S x1 12 11 x2 (fun S41 => fget S41 x0 12 7 (fun v42 => fput S41 x0 12 7 (w32 (v42 + 1)) (fun S43 => r168 x0 S43)))
theorem p_f_X12_nextToken_b218 {G : jG} {d : Nat} {S0 : jSt} (hd0 : 2 ≤ d) {r168 : Int → jSt → Option (Int × jSt)} (k168 : ∀ (x0 : Int) (S : jSt), (0 ≤ (x0)) → J G yX12_nextToken cX12_nextToken 2 none d S0 168 [(0, 2, x0)] [] S (r168 x0 S)) : ∀ (x0 : Int) (x1 : Int) (x2 : Int) (S : jSt), (0 ≤ (x0)) → (0 ≤ (x1)) → (R64 (x2)) → J G yX12_nextToken cX12_nextToken 2 none d S0 218 [(0, 2, x0)] [(1, x2), (2, x1)] S (f_X12_nextToken_b218 r168 x0 x1 x2 S) := by
  intro x0 x1 x2 S h0 h1 h2
  unfold f_X12_nextToken_b218
  refine j_putl (ci := 12) (k := 11) (ty0 := tyX12) rfl in_X12 (Nat.le_of_ble_eq_true rfl) rfl tyX12_ok nmX12 rfl rfl (by decide +kernel) h2 fl_X12_115 dX12_nextToken_218 (fun S41 => ?_)
  refine j_aload_n 0 dX12_nextToken_221 rfl rfl ?_
  refine j_dup dX12_nextToken_222 (fun h => nomatch h) ?_
  refine j_get (ci := 12) (k := 7) (t := 0) rfl in_X12 (Nat.le_of_ble_eq_true rfl) rfl rfl fl_X12_92 dX12_nextToken_223 (fun (v42 : Int) (hv42 : R32 (v42)) => ?_)
  refine j_iconst dX12_nextToken_226 ?_
  refine j_iadd dX12_nextToken_227 ?_
  refine j_puti (ci := 12) (k := 7) (ty0 := tyX12) rfl in_X12 (Nat.le_of_ble_eq_true rfl) rfl tyX12_ok nmX12 rfl rfl (by decide +kernel) (w32_R _) fl_X12_92 dX12_nextToken_228 (fun S43 => ?_)
  refine j_goto (tgt := 168) dX12_nextToken_231 rfl ?_
  exact k168 x0 S43 h0
def f_X12_nextToken_b168B (r168 : Int → jSt → Option (Int × jSt)) (x0 : Int) (S : jSt) : Option (Int × jSt) :=
  fget S x0 12 7 (fun v31 => fcallv S x0 12 (f_X12_byteAt x0 v31 S) (fun v32 S33 => fcall (f_X12_isLetterByte v32 S33) (fun v34 S35 => if v34 = 0 then f_X12_nextToken_b310 S35 else fget S35 x0 12 11 (fun v36 => if (lshr64 v36 48) = 0 then fget S35 x0 12 11 (fun v37 => fget S35 x0 12 7 (fun v38 => fcallv S35 x0 12 (f_X12_byteAt x0 v38 S35) (fun v39 S40 => f_X12_nextToken_b218 r168 x0 x0 (lor64 (lshl64 v37 8) v39) S40))) else f_X12_nextToken_b218 r168 x0 x0 1152921504606846976 S35))))
theorem p_f_X12_nextToken_b168B {G : jG} {d : Nat} {S0 : jSt} (hd0 : 2 ≤ d) {r168 : Int → jSt → Option (Int × jSt)} (k168 : ∀ (x0 : Int) (S : jSt), (0 ≤ (x0)) → J G yX12_nextToken cX12_nextToken 2 none d S0 168 [(0, 2, x0)] [] S (r168 x0 S)) : ∀ (x0 : Int) (S : jSt), (0 ≤ (x0)) → J G yX12_nextToken cX12_nextToken 2 none d S0 168 [(0, 2, x0)] [] S (f_X12_nextToken_b168B r168 x0 S) := by
  intro x0 S h0
  unfold f_X12_nextToken_b168B
  refine j_aload_n 0 dX12_nextToken_168 rfl rfl ?_
  refine j_aload_n 0 dX12_nextToken_169 rfl rfl ?_
  refine j_get (ci := 12) (k := 7) (t := 0) rfl in_X12 (Nat.le_of_ble_eq_true rfl) rfl rfl fl_X12_92 dX12_nextToken_170 (fun (v31 : Int) (hv31 : R32 (v31)) => ?_)
  refine j_callV (ci := 12) (As := [(0, v31)]) (st := []) kc_X12_byteAt (c_X12_byteAt x0 v31 S h0 hv31) rfl lm_X12_95 ki_X12_byteAt ke_X12_byteAt rfl (Nat.le_of_ble_eq_true rfl) (Nat.le_trans (m := 2) (Nat.le_of_ble_eq_true rfl) hd0) dX12_nextToken_173 (fun (v32 : Int) (S33 : jSt) (hv32 : R32 (v32)) => ?_)
  refine j_callS (As := [(0, v32)]) (st := []) kc_X12_isLetterByte (c_X12_isLetterByte v32 S33 hv32) lm_X12_112 ks_X12_isLetterByte rfl (Nat.le_of_ble_eq_true rfl) (Nat.le_trans (m := 2) (Nat.le_of_ble_eq_true rfl) hd0) dX12_nextToken_176 (fun (v34 : Int) (S35 : jSt) (hv34 : (v34) = 0 ∨ (v34) = 1) => ?_)
  refine j_if_eq (tgt := 310) (jZ_R hv34) dX12_nextToken_179 rfl (fun _ => ?_) (fun _ => ?_)
  · refine j_sub [] rfl ?_
    exact p_f_X12_nextToken_b310 hd0 S35
  · refine j_aload_n 0 dX12_nextToken_182 rfl rfl ?_
    refine j_aload_n 0 dX12_nextToken_183 rfl rfl ?_
    refine j_get (ci := 12) (k := 11) (t := 1) rfl in_X12 (Nat.le_of_ble_eq_true rfl) rfl rfl fl_X12_115 dX12_nextToken_184 (fun (v36 : Int) (hv36 : R64 (v36)) => ?_)
    refine j_bipush dX12_nextToken_187 (by decide) ?_
    refine j_lshr dX12_nextToken_189 ?_
    refine j_lconst (z := 0) dX12_nextToken_190 rfl ?_
    refine j_lcmp_eq (tgt := 201) (lshr64_R _ _) (j_r64 0 rfl) dX12_nextToken_191 dX12_nextToken_192 rfl (fun _ => ?_) (fun _ => ?_)
    · refine j_aload_n 0 dX12_nextToken_201 rfl rfl ?_
      refine j_get (ci := 12) (k := 11) (t := 1) rfl in_X12 (Nat.le_of_ble_eq_true rfl) rfl rfl fl_X12_115 dX12_nextToken_202 (fun (v37 : Int) (hv37 : R64 (v37)) => ?_)
      refine j_bipush dX12_nextToken_205 (by decide) ?_
      refine j_lshl dX12_nextToken_207 ?_
      refine j_aload_n 0 dX12_nextToken_208 rfl rfl ?_
      refine j_aload_n 0 dX12_nextToken_209 rfl rfl ?_
      refine j_get (ci := 12) (k := 7) (t := 0) rfl in_X12 (Nat.le_of_ble_eq_true rfl) rfl rfl fl_X12_92 dX12_nextToken_210 (fun (v38 : Int) (hv38 : R32 (v38)) => ?_)
      refine j_callV (ci := 12) (As := [(0, v38)]) (st := [(1, lshl64 v37 8), (2, x0)]) kc_X12_byteAt (c_X12_byteAt x0 v38 S35 h0 hv38) rfl lm_X12_95 ki_X12_byteAt ke_X12_byteAt rfl (Nat.le_of_ble_eq_true rfl) (Nat.le_trans (m := 2) (Nat.le_of_ble_eq_true rfl) hd0) dX12_nextToken_213 (fun (v39 : Int) (S40 : jSt) (hv39 : R32 (v39)) => ?_)
      refine j_i2l hv39 dX12_nextToken_216 ?_
      refine j_lor dX12_nextToken_217 ?_
      exact p_f_X12_nextToken_b218 hd0 k168 x0 x0 (lor64 (lshl64 v37 8) v39) S40 h0 h0 (lor64_R _ _)
    · refine j_ldc2 cn_X12_119 dX12_nextToken_195 ?_
      refine j_goto (tgt := 218) dX12_nextToken_198 rfl ?_
      exact p_f_X12_nextToken_b218 hd0 k168 x0 x0 1152921504606846976 S35 h0 h0 (j_r64 1152921504606846976 rfl)
def f_X12_nextToken_b168 : Int → jSt → Option (Int × jSt) := jrep (β := Int → jSt → Option (Int × jSt)) (fun _ _ => none) (fun r => f_X12_nextToken_b168B r) jN
theorem p_f_X12_nextToken_b168 {G : jG} {d : Nat} {S0 : jSt} (hd0 : 2 ≤ d) : ∀ (x0 : Int) (S : jSt), (0 ≤ (x0)) → J G yX12_nextToken cX12_nextToken 2 none d S0 168 [(0, 2, x0)] [] S (f_X12_nextToken_b168  x0 S) :=
  jrep_ind (P := fun (r : Int → jSt → Option (Int × jSt)) => ∀ (x0 : Int) (S : jSt), (0 ≤ (x0)) → J G yX12_nextToken cX12_nextToken 2 none d S0 168 [(0, 2, x0)] [] S (r x0 S)) (by intros; exact j_none) (fun r k => p_f_X12_nextToken_b168B hd0 k) jN
def f_X12_nextToken_b135 (r85 : Int → jSt → Option (Int × jSt)) (x0 : Int) (x1 : Int) (x2 : Int) (S : jSt) : Option (Int × jSt) :=
  fput S x1 12 10 x2 (fun S56 => fget S56 x0 12 7 (fun v57 => fput S56 x0 12 7 (w32 (v57 + 1)) (fun S58 => r85 x0 S58)))
theorem p_f_X12_nextToken_b135 {G : jG} {d : Nat} {S0 : jSt} (hd0 : 2 ≤ d) {r85 : Int → jSt → Option (Int × jSt)} (k85 : ∀ (x0 : Int) (S : jSt), (0 ≤ (x0)) → J G yX12_nextToken cX12_nextToken 2 none d S0 85 [(0, 2, x0)] [] S (r85 x0 S)) : ∀ (x0 : Int) (x1 : Int) (x2 : Int) (S : jSt), (0 ≤ (x0)) → (0 ≤ (x1)) → (R32 (x2)) → J G yX12_nextToken cX12_nextToken 2 none d S0 135 [(0, 2, x0)] [(0, x2), (2, x1)] S (f_X12_nextToken_b135 r85 x0 x1 x2 S) := by
  intro x0 x1 x2 S h0 h1 h2
  unfold f_X12_nextToken_b135
  refine j_puti (ci := 12) (k := 10) (ty0 := tyX12) rfl in_X12 (Nat.le_of_ble_eq_true rfl) rfl tyX12_ok nmX12 rfl rfl (by decide +kernel) h2 fl_X12_108 dX12_nextToken_135 (fun S56 => ?_)
  refine j_aload_n 0 dX12_nextToken_138 rfl rfl ?_
  refine j_dup dX12_nextToken_139 (fun h => nomatch h) ?_
  refine j_get (ci := 12) (k := 7) (t := 0) rfl in_X12 (Nat.le_of_ble_eq_true rfl) rfl rfl fl_X12_92 dX12_nextToken_140 (fun (v57 : Int) (hv57 : R32 (v57)) => ?_)
  refine j_iconst dX12_nextToken_143 ?_
  refine j_iadd dX12_nextToken_144 ?_
  refine j_puti (ci := 12) (k := 7) (ty0 := tyX12) rfl in_X12 (Nat.le_of_ble_eq_true rfl) rfl tyX12_ok nmX12 rfl rfl (by decide +kernel) (w32_R _) fl_X12_92 dX12_nextToken_145 (fun S58 => ?_)
  refine j_goto (tgt := 85) dX12_nextToken_148 rfl ?_
  exact k85 x0 S58 h0
def f_X12_nextToken_b85B (r85 : Int → jSt → Option (Int × jSt)) (x0 : Int) (S : jSt) : Option (Int × jSt) :=
  fget S x0 12 7 (fun v46 => fcallv S x0 12 (f_X12_byteAt x0 v46 S) (fun v47 S48 => fcall (f_X12_isFigure v47 S48) (fun v49 S50 => if v49 = 0 then f_X12_nextToken_b310 S50 else fget S50 x0 12 10 (fun v51 => if v51 ≤ 99999 then fget S50 x0 12 10 (fun v52 => fget S50 x0 12 7 (fun v53 => fcallv S50 x0 12 (f_X12_byteAt x0 v53 S50) (fun v54 S55 => f_X12_nextToken_b135 r85 x0 x0 (w32 ((w32 ((w32 (10 * v52)) + v54)) - 48)) S55))) else fget S50 x0 12 10 (fun v59 => f_X12_nextToken_b135 r85 x0 x0 v59 S50)))))
theorem p_f_X12_nextToken_b85B {G : jG} {d : Nat} {S0 : jSt} (hd0 : 2 ≤ d) {r85 : Int → jSt → Option (Int × jSt)} (k85 : ∀ (x0 : Int) (S : jSt), (0 ≤ (x0)) → J G yX12_nextToken cX12_nextToken 2 none d S0 85 [(0, 2, x0)] [] S (r85 x0 S)) : ∀ (x0 : Int) (S : jSt), (0 ≤ (x0)) → J G yX12_nextToken cX12_nextToken 2 none d S0 85 [(0, 2, x0)] [] S (f_X12_nextToken_b85B r85 x0 S) := by
  intro x0 S h0
  unfold f_X12_nextToken_b85B
  refine j_aload_n 0 dX12_nextToken_85 rfl rfl ?_
  refine j_aload_n 0 dX12_nextToken_86 rfl rfl ?_
  refine j_get (ci := 12) (k := 7) (t := 0) rfl in_X12 (Nat.le_of_ble_eq_true rfl) rfl rfl fl_X12_92 dX12_nextToken_87 (fun (v46 : Int) (hv46 : R32 (v46)) => ?_)
  refine j_callV (ci := 12) (As := [(0, v46)]) (st := []) kc_X12_byteAt (c_X12_byteAt x0 v46 S h0 hv46) rfl lm_X12_95 ki_X12_byteAt ke_X12_byteAt rfl (Nat.le_of_ble_eq_true rfl) (Nat.le_trans (m := 2) (Nat.le_of_ble_eq_true rfl) hd0) dX12_nextToken_90 (fun (v47 : Int) (S48 : jSt) (hv47 : R32 (v47)) => ?_)
  refine j_callS (As := [(0, v47)]) (st := []) kc_X12_isFigure (c_X12_isFigure v47 S48 hv47) lm_X12_105 ks_X12_isFigure rfl (Nat.le_of_ble_eq_true rfl) (Nat.le_trans (m := 2) (Nat.le_of_ble_eq_true rfl) hd0) dX12_nextToken_93 (fun (v49 : Int) (S50 : jSt) (hv49 : (v49) = 0 ∨ (v49) = 1) => ?_)
  refine j_if_eq (tgt := 310) (jZ_R hv49) dX12_nextToken_96 rfl (fun _ => ?_) (fun _ => ?_)
  · refine j_sub [] rfl ?_
    exact p_f_X12_nextToken_b310 hd0 S50
  · refine j_aload_n 0 dX12_nextToken_99 rfl rfl ?_
    refine j_aload_n 0 dX12_nextToken_100 rfl rfl ?_
    refine j_get (ci := 12) (k := 10) (t := 0) rfl in_X12 (Nat.le_of_ble_eq_true rfl) rfl rfl fl_X12_108 dX12_nextToken_101 (fun (v51 : Int) (hv51 : R32 (v51)) => ?_)
    refine j_ldc cn_X12_111 dX12_nextToken_104 ?_
    refine j_icmp_le (tgt := 116) hv51 (j_r32 99999 rfl) dX12_nextToken_106 rfl (fun _ => ?_) (fun _ => ?_)
    · refine j_bipush dX12_nextToken_116 (by decide) ?_
      refine j_aload_n 0 dX12_nextToken_118 rfl rfl ?_
      refine j_get (ci := 12) (k := 10) (t := 0) rfl in_X12 (Nat.le_of_ble_eq_true rfl) rfl rfl fl_X12_108 dX12_nextToken_119 (fun (v52 : Int) (hv52 : R32 (v52)) => ?_)
      refine j_imul dX12_nextToken_122 ?_
      refine j_aload_n 0 dX12_nextToken_123 rfl rfl ?_
      refine j_aload_n 0 dX12_nextToken_124 rfl rfl ?_
      refine j_get (ci := 12) (k := 7) (t := 0) rfl in_X12 (Nat.le_of_ble_eq_true rfl) rfl rfl fl_X12_92 dX12_nextToken_125 (fun (v53 : Int) (hv53 : R32 (v53)) => ?_)
      refine j_callV (ci := 12) (As := [(0, v53)]) (st := [(0, w32 (10 * v52)), (2, x0)]) kc_X12_byteAt (c_X12_byteAt x0 v53 S50 h0 hv53) rfl lm_X12_95 ki_X12_byteAt ke_X12_byteAt rfl (Nat.le_of_ble_eq_true rfl) (Nat.le_trans (m := 2) (Nat.le_of_ble_eq_true rfl) hd0) dX12_nextToken_128 (fun (v54 : Int) (S55 : jSt) (hv54 : R32 (v54)) => ?_)
      refine j_iadd dX12_nextToken_131 ?_
      refine j_bipush dX12_nextToken_132 (by decide) ?_
      refine j_isub dX12_nextToken_134 ?_
      exact p_f_X12_nextToken_b135 hd0 k85 x0 x0 (w32 ((w32 ((w32 (10 * v52)) + v54)) - 48)) S55 h0 h0 (w32_R _)
    · refine j_aload_n 0 dX12_nextToken_109 rfl rfl ?_
      refine j_get (ci := 12) (k := 10) (t := 0) rfl in_X12 (Nat.le_of_ble_eq_true rfl) rfl rfl fl_X12_108 dX12_nextToken_110 (fun (v59 : Int) (hv59 : R32 (v59)) => ?_)
      refine j_goto (tgt := 135) dX12_nextToken_113 rfl ?_
      exact p_f_X12_nextToken_b135 hd0 k85 x0 x0 v59 S50 h0 h0 hv59
def f_X12_nextToken_b85 : Int → jSt → Option (Int × jSt) := jrep (β := Int → jSt → Option (Int × jSt)) (fun _ _ => none) (fun r => f_X12_nextToken_b85B r) jN
theorem p_f_X12_nextToken_b85 {G : jG} {d : Nat} {S0 : jSt} (hd0 : 2 ≤ d) : ∀ (x0 : Int) (S : jSt), (0 ≤ (x0)) → J G yX12_nextToken cX12_nextToken 2 none d S0 85 [(0, 2, x0)] [] S (f_X12_nextToken_b85  x0 S) :=
  jrep_ind (P := fun (r : Int → jSt → Option (Int × jSt)) => ∀ (x0 : Int) (S : jSt), (0 ≤ (x0)) → J G yX12_nextToken cX12_nextToken 2 none d S0 85 [(0, 2, x0)] [] S (r x0 S)) (by intros; exact j_none) (fun r k => p_f_X12_nextToken_b85B hd0 k) jN
def f_X12_nextToken_b0B (r0 : Int → jSt → Option (Int × jSt)) (x0 : Int) (S : jSt) : Option (Int × jSt) :=
  fget S x0 12 7 (fun v1 => fcallv S x0 12 (f_X12_byteAt x0 v1 S) (fun v2 S3 => if v2 = 32 then f_X12_nextToken_b26 r0 x0 S3 else fget S3 x0 12 7 (fun v6 => fcallv S3 x0 12 (f_X12_byteAt x0 v6 S3) (fun v7 S8 => if v7 = 10 then f_X12_nextToken_b26 r0 x0 S8 else fget S8 x0 12 7 (fun v9 => fput S8 x0 12 8 v9 (fun S10 => fget S10 x0 12 7 (fun v11 => fcallv S10 x0 12 (f_X12_byteAt x0 v11 S10) (fun v12 S13 => if 0 ≤ v12 then fcall (f_X12_isFigure v12 S13) (fun v14 S15 => if v14 = 0 then fcall (f_X12_isLetterByte v12 S15) (fun v16 S17 => if v16 = 0 then fcall (f_X12_isSign v12 S17) (fun v18 S19 => if v18 = 0 then f_X12_nextToken_b247 x0 v12 x0 3 S19 else f_X12_nextToken_b247 x0 v12 x0 v12 S19) else fput S17 x0 12 9 2 (fun S29 => fput S29 x0 12 11 0 (fun S30 => f_X12_nextToken_b168 x0 S30))) else fput S15 x0 12 9 1 (fun S44 => fput S44 x0 12 10 0 (fun S45 => f_X12_nextToken_b85 x0 S45))) else fput S13 x0 12 9 0 (fun S60 => f_X12_nextToken_b310 S60)))))))))
theorem p_f_X12_nextToken_b0B {G : jG} {d : Nat} {S0 : jSt} (hd0 : 2 ≤ d) {r0 : Int → jSt → Option (Int × jSt)} (k0 : ∀ (x0 : Int) (S : jSt), (0 ≤ (x0)) → J G yX12_nextToken cX12_nextToken 2 none d S0 0 [(0, 2, x0)] [] S (r0 x0 S)) : ∀ (x0 : Int) (S : jSt), (0 ≤ (x0)) → J G yX12_nextToken cX12_nextToken 2 none d S0 0 [(0, 2, x0)] [] S (f_X12_nextToken_b0B r0 x0 S) := by
  intro x0 S h0
  unfold f_X12_nextToken_b0B
  refine j_aload_n 0 dX12_nextToken_0 rfl rfl ?_
  refine j_aload_n 0 dX12_nextToken_1 rfl rfl ?_
  refine j_get (ci := 12) (k := 7) (t := 0) rfl in_X12 (Nat.le_of_ble_eq_true rfl) rfl rfl fl_X12_92 dX12_nextToken_2 (fun (v1 : Int) (hv1 : R32 (v1)) => ?_)
  refine j_callV (ci := 12) (As := [(0, v1)]) (st := []) kc_X12_byteAt (c_X12_byteAt x0 v1 S h0 hv1) rfl lm_X12_95 ki_X12_byteAt ke_X12_byteAt rfl (Nat.le_of_ble_eq_true rfl) (Nat.le_trans (m := 2) (Nat.le_of_ble_eq_true rfl) hd0) dX12_nextToken_5 (fun (v2 : Int) (S3 : jSt) (hv2 : R32 (v2)) => ?_)
  refine j_bipush dX12_nextToken_8 (by decide) ?_
  refine j_icmp_eq (tgt := 26) hv2 (j_r32 32 rfl) dX12_nextToken_10 rfl (fun _ => ?_) (fun _ => ?_)
  · exact p_f_X12_nextToken_b26 hd0 k0 x0 S3 h0
  · refine j_aload_n 0 dX12_nextToken_13 rfl rfl ?_
    refine j_aload_n 0 dX12_nextToken_14 rfl rfl ?_
    refine j_get (ci := 12) (k := 7) (t := 0) rfl in_X12 (Nat.le_of_ble_eq_true rfl) rfl rfl fl_X12_92 dX12_nextToken_15 (fun (v6 : Int) (hv6 : R32 (v6)) => ?_)
    refine j_callV (ci := 12) (As := [(0, v6)]) (st := []) kc_X12_byteAt (c_X12_byteAt x0 v6 S3 h0 hv6) rfl lm_X12_95 ki_X12_byteAt ke_X12_byteAt rfl (Nat.le_of_ble_eq_true rfl) (Nat.le_trans (m := 2) (Nat.le_of_ble_eq_true rfl) hd0) dX12_nextToken_18 (fun (v7 : Int) (S8 : jSt) (hv7 : R32 (v7)) => ?_)
    refine j_bipush dX12_nextToken_21 (by decide) ?_
    refine j_icmp_ne (tgt := 39) hv7 (j_r32 10 rfl) dX12_nextToken_23 rfl (fun _ => ?_) (fun _ => ?_)
    · refine j_aload_n 0 dX12_nextToken_39 rfl rfl ?_
      refine j_aload_n 0 dX12_nextToken_40 rfl rfl ?_
      refine j_get (ci := 12) (k := 7) (t := 0) rfl in_X12 (Nat.le_of_ble_eq_true rfl) rfl rfl fl_X12_92 dX12_nextToken_41 (fun (v9 : Int) (hv9 : R32 (v9)) => ?_)
      refine j_puti (ci := 12) (k := 8) (ty0 := tyX12) rfl in_X12 (Nat.le_of_ble_eq_true rfl) rfl tyX12_ok nmX12 rfl rfl (by decide +kernel) hv9 fl_X12_99 dX12_nextToken_44 (fun S10 => ?_)
      refine j_aload_n 0 dX12_nextToken_47 rfl rfl ?_
      refine j_aload_n 0 dX12_nextToken_48 rfl rfl ?_
      refine j_get (ci := 12) (k := 7) (t := 0) rfl in_X12 (Nat.le_of_ble_eq_true rfl) rfl rfl fl_X12_92 dX12_nextToken_49 (fun (v11 : Int) (hv11 : R32 (v11)) => ?_)
      refine j_callV (ci := 12) (As := [(0, v11)]) (st := []) kc_X12_byteAt (c_X12_byteAt x0 v11 S10 h0 hv11) rfl lm_X12_95 ki_X12_byteAt ke_X12_byteAt rfl (Nat.le_of_ble_eq_true rfl) (Nat.le_trans (m := 2) (Nat.le_of_ble_eq_true rfl) hd0) dX12_nextToken_52 (fun (v12 : Int) (S13 : jSt) (hv12 : R32 (v12)) => ?_)
      refine j_istore_n (lv' := [(1, 0, v12), (0, 2, x0)]) dX12_nextToken_55 rfl (Nat.le_of_ble_eq_true rfl) rfl ?_
      refine j_iload_n 0 dX12_nextToken_56 rfl rfl ?_
      refine j_if_ge (tgt := 68) hv12 dX12_nextToken_57 rfl (fun _ => ?_) (fun _ => ?_)
      · refine j_iload_n 0 dX12_nextToken_68 rfl rfl ?_
        refine j_callS (As := [(0, v12)]) (st := []) kc_X12_isFigure (c_X12_isFigure v12 S13 hv12) lm_X12_105 ks_X12_isFigure rfl (Nat.le_of_ble_eq_true rfl) (Nat.le_trans (m := 2) (Nat.le_of_ble_eq_true rfl) hd0) dX12_nextToken_69 (fun (v14 : Int) (S15 : jSt) (hv14 : (v14) = 0 ∨ (v14) = 1) => ?_)
        refine j_if_eq (tgt := 151) (jZ_R hv14) dX12_nextToken_72 rfl (fun _ => ?_) (fun _ => ?_)
        · refine j_iload_n 0 dX12_nextToken_151 rfl rfl ?_
          refine j_callS (As := [(0, v12)]) (st := []) kc_X12_isLetterByte (c_X12_isLetterByte v12 S15 hv12) lm_X12_112 ks_X12_isLetterByte rfl (Nat.le_of_ble_eq_true rfl) (Nat.le_trans (m := 2) (Nat.le_of_ble_eq_true rfl) hd0) dX12_nextToken_152 (fun (v16 : Int) (S17 : jSt) (hv16 : (v16) = 0 ∨ (v16) = 1) => ?_)
          refine j_if_eq (tgt := 234) (jZ_R hv16) dX12_nextToken_155 rfl (fun _ => ?_) (fun _ => ?_)
          · refine j_aload_n 1 dX12_nextToken_234 rfl rfl ?_
            refine j_iload_n 0 dX12_nextToken_235 rfl rfl ?_
            refine j_callS (As := [(0, v12)]) (st := [(2, x0)]) kc_X12_isSign (c_X12_isSign v12 S17 hv12) lm_X12_121 ks_X12_isSign rfl (Nat.le_of_ble_eq_true rfl) (Nat.le_trans (m := 2) (Nat.le_of_ble_eq_true rfl) hd0) dX12_nextToken_236 (fun (v18 : Int) (S19 : jSt) (hv18 : (v18) = 0 ∨ (v18) = 1) => ?_)
            refine j_if_eq (tgt := 246) (jZ_R hv18) dX12_nextToken_239 rfl (fun _ => ?_) (fun _ => ?_)
            · refine j_iconst dX12_nextToken_246 ?_
              refine j_sub [1, 0] rfl ?_
              exact p_f_X12_nextToken_b247 hd0 x0 v12 x0 3 S19 h0 hv12 h0 (j_r32 3 rfl)
            · refine j_iload_n 0 dX12_nextToken_242 rfl rfl ?_
              refine j_goto (tgt := 247) dX12_nextToken_243 rfl ?_
              refine j_sub [1, 0] rfl ?_
              exact p_f_X12_nextToken_b247 hd0 x0 v12 x0 v12 S19 h0 hv12 h0 hv12
          · refine j_aload_n 1 dX12_nextToken_158 rfl rfl ?_
            refine j_iconst dX12_nextToken_159 ?_
            refine j_puti (ci := 12) (k := 9) (ty0 := tyX12) rfl in_X12 (Nat.le_of_ble_eq_true rfl) rfl tyX12_ok nmX12 rfl rfl (by decide +kernel) (j_r32 2 rfl) fl_X12_102 dX12_nextToken_160 (fun S29 => ?_)
            refine j_aload_n 1 dX12_nextToken_163 rfl rfl ?_
            refine j_lconst (z := 0) dX12_nextToken_164 rfl ?_
            refine j_putl (ci := 12) (k := 11) (ty0 := tyX12) rfl in_X12 (Nat.le_of_ble_eq_true rfl) rfl tyX12_ok nmX12 rfl rfl (by decide +kernel) (j_r64 0 rfl) fl_X12_115 dX12_nextToken_165 (fun S30 => ?_)
            refine j_sub [1] rfl ?_
            exact p_f_X12_nextToken_b168 hd0 x0 S30 h0
        · refine j_aload_n 1 dX12_nextToken_75 rfl rfl ?_
          refine j_iconst dX12_nextToken_76 ?_
          refine j_puti (ci := 12) (k := 9) (ty0 := tyX12) rfl in_X12 (Nat.le_of_ble_eq_true rfl) rfl tyX12_ok nmX12 rfl rfl (by decide +kernel) (jZ_R jz1) fl_X12_102 dX12_nextToken_77 (fun S44 => ?_)
          refine j_aload_n 1 dX12_nextToken_80 rfl rfl ?_
          refine j_iconst dX12_nextToken_81 ?_
          refine j_puti (ci := 12) (k := 10) (ty0 := tyX12) rfl in_X12 (Nat.le_of_ble_eq_true rfl) rfl tyX12_ok nmX12 rfl rfl (by decide +kernel) (jZ_R jz0) fl_X12_108 dX12_nextToken_82 (fun S45 => ?_)
          refine j_sub [1] rfl ?_
          exact p_f_X12_nextToken_b85 hd0 x0 S45 h0
      · refine j_aload_n 1 dX12_nextToken_60 rfl rfl ?_
        refine j_iconst dX12_nextToken_61 ?_
        refine j_puti (ci := 12) (k := 9) (ty0 := tyX12) rfl in_X12 (Nat.le_of_ble_eq_true rfl) rfl tyX12_ok nmX12 rfl rfl (by decide +kernel) (jZ_R jz0) fl_X12_102 dX12_nextToken_62 (fun S60 => ?_)
        refine j_goto (tgt := 310) dX12_nextToken_65 rfl ?_
        refine j_sub [] rfl ?_
        exact p_f_X12_nextToken_b310 hd0 S60
    · exact p_f_X12_nextToken_b26 hd0 k0 x0 S8 h0
def f_X12_nextToken_b0 : Int → jSt → Option (Int × jSt) := jrep (β := Int → jSt → Option (Int × jSt)) (fun _ _ => none) (fun r => f_X12_nextToken_b0B r) jN
theorem p_f_X12_nextToken_b0 {G : jG} {d : Nat} {S0 : jSt} (hd0 : 2 ≤ d) : ∀ (x0 : Int) (S : jSt), (0 ≤ (x0)) → J G yX12_nextToken cX12_nextToken 2 none d S0 0 [(0, 2, x0)] [] S (f_X12_nextToken_b0  x0 S) :=
  jrep_ind (P := fun (r : Int → jSt → Option (Int × jSt)) => ∀ (x0 : Int) (S : jSt), (0 ≤ (x0)) → J G yX12_nextToken cX12_nextToken 2 none d S0 0 [(0, 2, x0)] [] S (r x0 S)) (by intros; exact j_none) (fun r k => p_f_X12_nextToken_b0B hd0 k) jN
def f_X12_nextToken (a0 : Int) (S : jSt) : Option (Int × jSt) :=
  f_X12_nextToken_b0 a0 S
theorem e_X12_nextToken {G : jG} {d : Nat} {S0 : jSt} (hd0 : 2 ≤ d) (a0 : Int) (S : jSt) (h0 : 0 ≤ (a0)) : J G yX12_nextToken cX12_nextToken 2 none d S0 0 [(0, 2, a0)] [] S (f_X12_nextToken a0 S) := by
  unfold f_X12_nextToken
  exact p_f_X12_nextToken_b0 hd0 a0 S h0
theorem c_X12_nextToken {G : jG} (a0 : Int) (S : jSt) (h0 : 0 ≤ (a0)) : CT G yX12_nextToken cX12_nextToken 2 none 2 ([(2, a0)].map jval) S (f_X12_nextToken a0 S) := ct_of [(2, a0)] (by decide) rfl (Nat.le_of_ble_eq_true rfl) (e_X12_nextToken (Nat.le_refl _) a0 S h0)
-- X12_rank
def f_X12_rank_b82 (x0 : Int) (S : jSt) : Option (Int × jSt) :=
  some (x0, S)
theorem p_f_X12_rank_b82 {G : jG} {d : Nat} {S0 : jSt} (hd0 : 1 ≤ d) : ∀ (x0 : Int) (S : jSt), (R32 (x0)) → J G yX12_rank cX12_rank 1 (some .int) d S0 82 [] [(0, x0)] S (f_X12_rank_b82  x0 S) := by
  intro x0 S h0
  unfold f_X12_rank_b82
  exact j_ireturn h0 dX12_rank_82
def f_X12_rank_b65 (S : jSt) : Option (Int × jSt) :=
  f_X12_rank_b82 7 S
theorem p_f_X12_rank_b65 {G : jG} {d : Nat} {S0 : jSt} (hd0 : 1 ≤ d) : ∀ (S : jSt), J G yX12_rank cX12_rank 1 (some .int) d S0 65 [] [] S (f_X12_rank_b65   S) := by
  intro S
  unfold f_X12_rank_b65
  refine j_bipush dX12_rank_65 (by decide) ?_
  refine j_goto (tgt := 82) dX12_rank_67 rfl ?_
  exact p_f_X12_rank_b82 hd0 7 S (j_r32 7 rfl)
def f_X12_rank (a0 : Int) (S : jSt) : Option (Int × jSt) :=
  if a0 < 40 then if a0 = 22 then f_X12_rank_b82 1 S else if a0 = 21 then f_X12_rank_b82 2 S else if a0 = 20 then f_X12_rank_b82 3 S else if a0 < 10 then if a0 = 5 then f_X12_rank_b65 S else if a0 = 2 then f_X12_rank_b65 S else if a0 = 4 then f_X12_rank_b65 S else if a0 < 8 then f_X12_rank_b82 5 S else f_X12_rank_b82 6 S else f_X12_rank_b82 4 S else f_X12_rank_b82 0 S
theorem e_X12_rank {G : jG} {d : Nat} {S0 : jSt} (hd0 : 1 ≤ d) (a0 : Int) (S : jSt) (h0 : R32 (a0)) : J G yX12_rank cX12_rank 1 (some .int) d S0 0 [(0, 0, a0)] [] S (f_X12_rank a0 S) := by
  unfold f_X12_rank
  refine j_iload_n 0 dX12_rank_0 rfl rfl ?_
  refine j_bipush dX12_rank_1 (by decide) ?_
  refine j_icmp_lt (tgt := 10) h0 (j_r32 40 rfl) dX12_rank_3 rfl (fun _ => ?_) (fun _ => ?_)
  · refine j_iload_n 0 dX12_rank_10 rfl rfl ?_
    refine j_bipush dX12_rank_11 (by decide) ?_
    refine j_icmp_ne (tgt := 20) h0 (j_r32 22 rfl) dX12_rank_13 rfl (fun _ => ?_) (fun _ => ?_)
    · refine j_iload_n 0 dX12_rank_20 rfl rfl ?_
      refine j_bipush dX12_rank_21 (by decide) ?_
      refine j_icmp_ne (tgt := 30) h0 (j_r32 21 rfl) dX12_rank_23 rfl (fun _ => ?_) (fun _ => ?_)
      · refine j_iload_n 0 dX12_rank_30 rfl rfl ?_
        refine j_bipush dX12_rank_31 (by decide) ?_
        refine j_icmp_ne (tgt := 40) h0 (j_r32 20 rfl) dX12_rank_33 rfl (fun _ => ?_) (fun _ => ?_)
        · refine j_iload_n 0 dX12_rank_40 rfl rfl ?_
          refine j_bipush dX12_rank_41 (by decide) ?_
          refine j_icmp_lt (tgt := 50) h0 (j_r32 10 rfl) dX12_rank_43 rfl (fun _ => ?_) (fun _ => ?_)
          · refine j_iload_n 0 dX12_rank_50 rfl rfl ?_
            refine j_iconst dX12_rank_51 ?_
            refine j_icmp_eq (tgt := 65) h0 (j_r32 5 rfl) dX12_rank_52 rfl (fun _ => ?_) (fun _ => ?_)
            · refine j_sub [] rfl ?_
              exact p_f_X12_rank_b65 hd0 S
            · refine j_iload_n 0 dX12_rank_55 rfl rfl ?_
              refine j_iconst dX12_rank_56 ?_
              refine j_icmp_eq (tgt := 65) h0 (j_r32 2 rfl) dX12_rank_57 rfl (fun _ => ?_) (fun _ => ?_)
              · refine j_sub [] rfl ?_
                exact p_f_X12_rank_b65 hd0 S
              · refine j_iload_n 0 dX12_rank_60 rfl rfl ?_
                refine j_iconst dX12_rank_61 ?_
                refine j_icmp_ne (tgt := 70) h0 (j_r32 4 rfl) dX12_rank_62 rfl (fun _ => ?_) (fun _ => ?_)
                · refine j_iload_n 0 dX12_rank_70 rfl rfl ?_
                  refine j_bipush dX12_rank_71 (by decide) ?_
                  refine j_icmp_lt (tgt := 81) h0 (j_r32 8 rfl) dX12_rank_73 rfl (fun _ => ?_) (fun _ => ?_)
                  · refine j_iconst dX12_rank_81 ?_
                    refine j_sub [] rfl ?_
                    exact p_f_X12_rank_b82 hd0 5 S (j_r32 5 rfl)
                  · refine j_bipush dX12_rank_76 (by decide) ?_
                    refine j_goto (tgt := 82) dX12_rank_78 rfl ?_
                    refine j_sub [] rfl ?_
                    exact p_f_X12_rank_b82 hd0 6 S (j_r32 6 rfl)
                · refine j_sub [] rfl ?_
                  exact p_f_X12_rank_b65 hd0 S
          · refine j_iconst dX12_rank_46 ?_
            refine j_goto (tgt := 82) dX12_rank_47 rfl ?_
            refine j_sub [] rfl ?_
            exact p_f_X12_rank_b82 hd0 4 S (j_r32 4 rfl)
        · refine j_iconst dX12_rank_36 ?_
          refine j_goto (tgt := 82) dX12_rank_37 rfl ?_
          refine j_sub [] rfl ?_
          exact p_f_X12_rank_b82 hd0 3 S (j_r32 3 rfl)
      · refine j_iconst dX12_rank_26 ?_
        refine j_goto (tgt := 82) dX12_rank_27 rfl ?_
        refine j_sub [] rfl ?_
        exact p_f_X12_rank_b82 hd0 2 S (j_r32 2 rfl)
    · refine j_iconst dX12_rank_16 ?_
      refine j_goto (tgt := 82) dX12_rank_17 rfl ?_
      refine j_sub [] rfl ?_
      exact p_f_X12_rank_b82 hd0 1 S (jZ_R jz1)
  · refine j_iconst dX12_rank_6 ?_
    refine j_goto (tgt := 82) dX12_rank_7 rfl ?_
    refine j_sub [] rfl ?_
    exact p_f_X12_rank_b82 hd0 0 S (jZ_R jz0)
theorem c_X12_rank {G : jG} (a0 : Int) (S : jSt) (h0 : R32 (a0)) : CT G yX12_rank cX12_rank 1 (some .int) 1 ([(0, a0)].map jval) S (f_X12_rank a0 S) := ct_of [(0, a0)] (by decide) rfl (Nat.le_of_ble_eq_true rfl) (e_X12_rank (Nat.le_refl _) a0 S h0)
-- X12_settle
def f_X12_settle_b93 (S : jSt) : Option (Int × jSt) :=
  some (0, S)
theorem p_f_X12_settle_b93 {G : jG} {d : Nat} {S0 : jSt} (hd0 : 2 ≤ d) : ∀ (S : jSt), J G yX12_settle cX12_settle 2 none d S0 93 [] [] S (f_X12_settle_b93   S) := by
  intro S
  unfold f_X12_settle_b93
  exact j_return dX12_settle_93
def f_X12_settle_b80 (r0 : Int → Int → jSt → Option (Int × jSt)) (x0 : Int) (x1 : Int) (S : jSt) : Option (Int × jSt) :=
  fget S x0 12 17 (fun v19 => fput S x0 12 17 (w32 (v19 - 1)) (fun S20 => r0 x0 x1 S20))
theorem p_f_X12_settle_b80 {G : jG} {d : Nat} {S0 : jSt} (hd0 : 2 ≤ d) {r0 : Int → Int → jSt → Option (Int × jSt)} (k0 : ∀ (x0 : Int) (x1 : Int) (S : jSt), (0 ≤ (x0)) → (R32 (x1)) → J G yX12_settle cX12_settle 2 none d S0 0 [(0, 2, x0), (1, 0, x1)] [] S (r0 x0 x1 S)) : ∀ (x0 : Int) (x1 : Int) (S : jSt), (0 ≤ (x0)) → (R32 (x1)) → J G yX12_settle cX12_settle 2 none d S0 80 [(0, 2, x0), (1, 0, x1)] [] S (f_X12_settle_b80 r0 x0 x1 S) := by
  intro x0 x1 S h0 h1
  unfold f_X12_settle_b80
  refine j_aload_n 0 dX12_settle_80 rfl rfl ?_
  refine j_dup dX12_settle_81 (fun h => nomatch h) ?_
  refine j_get (ci := 12) (k := 17) (t := 0) rfl in_X12 (Nat.le_of_ble_eq_true rfl) rfl rfl fl_X12_160 dX12_settle_82 (fun (v19 : Int) (hv19 : R32 (v19)) => ?_)
  refine j_iconst dX12_settle_85 ?_
  refine j_isub dX12_settle_86 ?_
  refine j_puti (ci := 12) (k := 17) (ty0 := tyX12) rfl in_X12 (Nat.le_of_ble_eq_true rfl) rfl tyX12_ok nmX12 rfl rfl (by decide +kernel) (w32_R _) fl_X12_160 dX12_settle_87 (fun S20 => ?_)
  refine j_goto (tgt := 0) dX12_settle_90 rfl ?_
  exact k0 x0 x1 S20 h0 h1
def f_X12_settle_b0B (r0 : Int → Int → jSt → Option (Int × jSt)) (x0 : Int) (x1 : Int) (S : jSt) : Option (Int × jSt) :=
  fget S x0 12 16 (fun v1 => if v1 ≤ 0 then f_X12_settle_b93 S else fgetr S x0 12 15 (fun v2 => fget S x0 12 16 (fun v3 => fald S v2 (w32 (v3 - 1)) 1 (fun v4 => fcall (f_X12_rank v4 S) (fun v5 S6 => if v5 < x1 then f_X12_settle_b93 S6 else fget S6 x0 12 16 (fun v7 => fput S6 x0 12 16 (w32 (v7 - 1)) (fun S8 => fgetr S8 x0 12 15 (fun v9 => fget S8 x0 12 16 (fun v10 => fald S8 v9 v10 1 (fun v11 => fcallv S8 x0 12 (f_X12_emit x0 v11 0 S8) (fun v12 S13 => fgetr S13 x0 12 15 (fun v14 => fget S13 x0 12 16 (fun v15 => fald S13 v14 v15 1 (fun v16 => fcall (f_X12_rank v16 S13) (fun v17 S18 => if v17 = 7 then f_X12_settle_b80 r0 x0 x1 S18 else fgetr S18 x0 12 15 (fun v21 => fget S18 x0 12 16 (fun v22 => fald S18 v21 v22 1 (fun v23 => if v23 = 20 then f_X12_settle_b80 r0 x0 x1 S18 else r0 x0 x1 S18))))))))))))))))))
theorem p_f_X12_settle_b0B {G : jG} {d : Nat} {S0 : jSt} (hd0 : 2 ≤ d) {r0 : Int → Int → jSt → Option (Int × jSt)} (k0 : ∀ (x0 : Int) (x1 : Int) (S : jSt), (0 ≤ (x0)) → (R32 (x1)) → J G yX12_settle cX12_settle 2 none d S0 0 [(0, 2, x0), (1, 0, x1)] [] S (r0 x0 x1 S)) : ∀ (x0 : Int) (x1 : Int) (S : jSt), (0 ≤ (x0)) → (R32 (x1)) → J G yX12_settle cX12_settle 2 none d S0 0 [(0, 2, x0), (1, 0, x1)] [] S (f_X12_settle_b0B r0 x0 x1 S) := by
  intro x0 x1 S h0 h1
  unfold f_X12_settle_b0B
  refine j_aload_n 0 dX12_settle_0 rfl rfl ?_
  refine j_get (ci := 12) (k := 16) (t := 0) rfl in_X12 (Nat.le_of_ble_eq_true rfl) rfl rfl fl_X12_150 dX12_settle_1 (fun (v1 : Int) (hv1 : R32 (v1)) => ?_)
  refine j_if_le (tgt := 93) hv1 dX12_settle_4 rfl (fun _ => ?_) (fun _ => ?_)
  · refine j_sub [] rfl ?_
    exact p_f_X12_settle_b93 hd0 S
  · refine j_aload_n 0 dX12_settle_7 rfl rfl ?_
    refine j_getr (ci := 12) (k := 15) rfl in_X12 (Nat.le_of_ble_eq_true rfl) rfl rfl fl_X12_29 dX12_settle_8 (fun (v2 : Int) (hv2 : 0 ≤ v2) => ?_)
    refine j_aload_n 0 dX12_settle_11 rfl rfl ?_
    refine j_get (ci := 12) (k := 16) (t := 0) rfl in_X12 (Nat.le_of_ble_eq_true rfl) rfl rfl fl_X12_150 dX12_settle_12 (fun (v3 : Int) (hv3 : R32 (v3)) => ?_)
    refine j_iconst dX12_settle_15 ?_
    refine j_isub dX12_settle_16 ?_
    refine j_iaload (w32_R _) dX12_settle_17 (fun (v4 : Int) (hv4 : R32 (v4)) => ?_)
    refine j_callS (As := [(0, v4)]) (st := []) kc_X12_rank (c_X12_rank v4 S hv4) lm_X12_153 ks_X12_rank rfl (Nat.le_of_ble_eq_true rfl) (Nat.le_trans (m := 2) (Nat.le_of_ble_eq_true rfl) hd0) dX12_settle_18 (fun (v5 : Int) (S6 : jSt) (hv5 : R32 (v5)) => ?_)
    refine j_iload_n 1 dX12_settle_21 rfl rfl ?_
    refine j_icmp_lt (tgt := 93) hv5 h1 dX12_settle_22 rfl (fun _ => ?_) (fun _ => ?_)
    · refine j_sub [] rfl ?_
      exact p_f_X12_settle_b93 hd0 S6
    · refine j_aload_n 0 dX12_settle_25 rfl rfl ?_
      refine j_dup dX12_settle_26 (fun h => nomatch h) ?_
      refine j_get (ci := 12) (k := 16) (t := 0) rfl in_X12 (Nat.le_of_ble_eq_true rfl) rfl rfl fl_X12_150 dX12_settle_27 (fun (v7 : Int) (hv7 : R32 (v7)) => ?_)
      refine j_iconst dX12_settle_30 ?_
      refine j_isub dX12_settle_31 ?_
      refine j_puti (ci := 12) (k := 16) (ty0 := tyX12) rfl in_X12 (Nat.le_of_ble_eq_true rfl) rfl tyX12_ok nmX12 rfl rfl (by decide +kernel) (w32_R _) fl_X12_150 dX12_settle_32 (fun S8 => ?_)
      refine j_aload_n 0 dX12_settle_35 rfl rfl ?_
      refine j_aload_n 0 dX12_settle_36 rfl rfl ?_
      refine j_getr (ci := 12) (k := 15) rfl in_X12 (Nat.le_of_ble_eq_true rfl) rfl rfl fl_X12_29 dX12_settle_37 (fun (v9 : Int) (hv9 : 0 ≤ v9) => ?_)
      refine j_aload_n 0 dX12_settle_40 rfl rfl ?_
      refine j_get (ci := 12) (k := 16) (t := 0) rfl in_X12 (Nat.le_of_ble_eq_true rfl) rfl rfl fl_X12_150 dX12_settle_41 (fun (v10 : Int) (hv10 : R32 (v10)) => ?_)
      refine j_iaload hv10 dX12_settle_44 (fun (v11 : Int) (hv11 : R32 (v11)) => ?_)
      refine j_iconst dX12_settle_45 ?_
      refine j_callV (ci := 12) (As := [(0, v11), (0, 0)]) (st := []) kc_X12_emit (c_X12_emit x0 v11 0 S8 h0 hv11 (jZ_R jz0)) rfl lm_X12_156 ki_X12_emit ke_X12_emit rfl (Nat.le_of_ble_eq_true rfl) (Nat.le_trans (m := 2) (Nat.le_of_ble_eq_true rfl) hd0) dX12_settle_46 (fun v12 S13 _ => ?_)
      refine j_aload_n 0 dX12_settle_49 rfl rfl ?_
      refine j_getr (ci := 12) (k := 15) rfl in_X12 (Nat.le_of_ble_eq_true rfl) rfl rfl fl_X12_29 dX12_settle_50 (fun (v14 : Int) (hv14 : 0 ≤ v14) => ?_)
      refine j_aload_n 0 dX12_settle_53 rfl rfl ?_
      refine j_get (ci := 12) (k := 16) (t := 0) rfl in_X12 (Nat.le_of_ble_eq_true rfl) rfl rfl fl_X12_150 dX12_settle_54 (fun (v15 : Int) (hv15 : R32 (v15)) => ?_)
      refine j_iaload hv15 dX12_settle_57 (fun (v16 : Int) (hv16 : R32 (v16)) => ?_)
      refine j_callS (As := [(0, v16)]) (st := []) kc_X12_rank (c_X12_rank v16 S13 hv16) lm_X12_153 ks_X12_rank rfl (Nat.le_of_ble_eq_true rfl) (Nat.le_trans (m := 2) (Nat.le_of_ble_eq_true rfl) hd0) dX12_settle_58 (fun (v17 : Int) (S18 : jSt) (hv17 : R32 (v17)) => ?_)
      refine j_bipush dX12_settle_61 (by decide) ?_
      refine j_icmp_eq (tgt := 80) hv17 (j_r32 7 rfl) dX12_settle_63 rfl (fun _ => ?_) (fun _ => ?_)
      · exact p_f_X12_settle_b80 hd0 k0 x0 x1 S18 h0 h1
      · refine j_aload_n 0 dX12_settle_66 rfl rfl ?_
        refine j_getr (ci := 12) (k := 15) rfl in_X12 (Nat.le_of_ble_eq_true rfl) rfl rfl fl_X12_29 dX12_settle_67 (fun (v21 : Int) (hv21 : 0 ≤ v21) => ?_)
        refine j_aload_n 0 dX12_settle_70 rfl rfl ?_
        refine j_get (ci := 12) (k := 16) (t := 0) rfl in_X12 (Nat.le_of_ble_eq_true rfl) rfl rfl fl_X12_150 dX12_settle_71 (fun (v22 : Int) (hv22 : R32 (v22)) => ?_)
        refine j_iaload hv22 dX12_settle_74 (fun (v23 : Int) (hv23 : R32 (v23)) => ?_)
        refine j_bipush dX12_settle_75 (by decide) ?_
        refine j_icmp_ne (tgt := 0) hv23 (j_r32 20 rfl) dX12_settle_77 rfl (fun _ => ?_) (fun _ => ?_)
        · exact k0 x0 x1 S18 h0 h1
        · exact p_f_X12_settle_b80 hd0 k0 x0 x1 S18 h0 h1
def f_X12_settle_b0 : Int → Int → jSt → Option (Int × jSt) := jrep (β := Int → Int → jSt → Option (Int × jSt)) (fun _ _ _ => none) (fun r => f_X12_settle_b0B r) jN
theorem p_f_X12_settle_b0 {G : jG} {d : Nat} {S0 : jSt} (hd0 : 2 ≤ d) : ∀ (x0 : Int) (x1 : Int) (S : jSt), (0 ≤ (x0)) → (R32 (x1)) → J G yX12_settle cX12_settle 2 none d S0 0 [(0, 2, x0), (1, 0, x1)] [] S (f_X12_settle_b0  x0 x1 S) :=
  jrep_ind (P := fun (r : Int → Int → jSt → Option (Int × jSt)) => ∀ (x0 : Int) (x1 : Int) (S : jSt), (0 ≤ (x0)) → (R32 (x1)) → J G yX12_settle cX12_settle 2 none d S0 0 [(0, 2, x0), (1, 0, x1)] [] S (r x0 x1 S)) (by intros; exact j_none) (fun r k => p_f_X12_settle_b0B hd0 k) jN
def f_X12_settle (a0 : Int) (a1 : Int) (S : jSt) : Option (Int × jSt) :=
  f_X12_settle_b0 a0 a1 S
theorem e_X12_settle {G : jG} {d : Nat} {S0 : jSt} (hd0 : 2 ≤ d) (a0 : Int) (a1 : Int) (S : jSt) (h0 : 0 ≤ (a0)) (h1 : R32 (a1)) : J G yX12_settle cX12_settle 2 none d S0 0 [(0, 2, a0), (1, 0, a1)] [] S (f_X12_settle a0 a1 S) := by
  unfold f_X12_settle
  exact p_f_X12_settle_b0 hd0 a0 a1 S h0 h1
theorem c_X12_settle {G : jG} (a0 : Int) (a1 : Int) (S : jSt) (h0 : 0 ≤ (a0)) (h1 : R32 (a1)) : CT G yX12_settle cX12_settle 2 none 2 ([(2, a0), (0, a1)].map jval) S (f_X12_settle a0 a1 S) := ct_of [(2, a0), (0, a1)] (by decide) rfl (Nat.le_of_ble_eq_true rfl) (e_X12_settle (Nat.le_refl _) a0 a1 S h0 h1)
-- X12_w2
def f_X12_w2 (a0 : Int) (a1 : Int) (S : jSt) : Option (Int × jSt) :=
  some (lor64 (lshl64 a0 8) a1, S)
theorem e_X12_w2 {G : jG} {d : Nat} {S0 : jSt} (hd0 : 1 ≤ d) (a0 : Int) (a1 : Int) (S : jSt) (h0 : R32 (a0)) (h1 : R32 (a1)) : J G yX12_w2 cX12_w2 2 (some .long) d S0 0 [(0, 0, a0), (1, 0, a1)] [] S (f_X12_w2 a0 a1 S) := by
  unfold f_X12_w2
  refine j_iload_n 0 dX12_w2_0 rfl rfl ?_
  refine j_i2l h0 dX12_w2_1 ?_
  refine j_bipush dX12_w2_2 (by decide) ?_
  refine j_lshl dX12_w2_4 ?_
  refine j_iload_n 1 dX12_w2_5 rfl rfl ?_
  refine j_i2l h1 dX12_w2_6 ?_
  refine j_lor dX12_w2_7 ?_
  exact j_lreturn (lor64_R _ _) dX12_w2_8
theorem c_X12_w2 {G : jG} (a0 : Int) (a1 : Int) (S : jSt) (h0 : R32 (a0)) (h1 : R32 (a1)) : CT G yX12_w2 cX12_w2 2 (some .long) 1 ([(0, a0), (0, a1)].map jval) S (f_X12_w2 a0 a1 S) := ct_of [(0, a0), (0, a1)] (by decide) rfl (Nat.le_of_ble_eq_true rfl) (e_X12_w2 (Nat.le_refl _) a0 a1 S h0 h1)
-- X12_endOne
def f_X12_endOne_b34 (S : jSt) : Option (Int × jSt) :=
  some (0, S)
theorem p_f_X12_endOne_b34 {G : jG} {d : Nat} {S0 : jSt} (hd0 : 3 ≤ d) : ∀ (S : jSt), J G yX12_endOne cX12_endOne 1 (some .int) d S0 34 [] [] S (f_X12_endOne_b34   S) := by
  intro S
  unfold f_X12_endOne_b34
  refine j_iconst dX12_endOne_34 ?_
  exact j_ireturn (jZ_R jz0) dX12_endOne_35
def f_X12_endOne (a0 : Int) (S : jSt) : Option (Int × jSt) :=
  fcallv S a0 12 (f_X12_settle a0 7 S) (fun v1 S2 => fput S2 a0 12 18 1 (fun S3 => fget S3 a0 12 16 (fun v4 => if v4 = 0 then f_X12_endOne_b34 S3 else fgetr S3 a0 12 15 (fun v5 => fget S3 a0 12 16 (fun v6 => fald S3 v5 (w32 (v6 - 1)) 1 (fun v7 => if v7 = 41 then fcall (f_X12_w2 98 121 S3) (fun v8 S9 => fcallv S9 a0 12 (f_X12_isWord a0 v8 S9) (fun v10 S11 => if v10 = 0 then some (1, S11) else fcallv S11 a0 12 (f_X12_nextToken a0 S11) (fun v12 S13 => fgetr S13 a0 12 15 (fun v14 => fget S13 a0 12 16 (fun v15 => fast S13 v14 (w32 (v15 - 1)) 1 4 (fun S16 => fput S16 a0 12 18 0 (fun S17 => some (0, S17)))))))) else f_X12_endOne_b34 S3))))))
theorem e_X12_endOne {G : jG} {d : Nat} {S0 : jSt} (hd0 : 3 ≤ d) (a0 : Int) (S : jSt) (h0 : 0 ≤ (a0)) : J G yX12_endOne cX12_endOne 1 (some .int) d S0 0 [(0, 2, a0)] [] S (f_X12_endOne a0 S) := by
  unfold f_X12_endOne
  refine j_aload_n 0 dX12_endOne_0 rfl rfl ?_
  refine j_bipush dX12_endOne_1 (by decide) ?_
  refine j_callV (ci := 12) (As := [(0, 7)]) (st := []) kc_X12_settle (c_X12_settle a0 7 S h0 (j_r32 7 rfl)) rfl lm_X12_193 ki_X12_settle ke_X12_settle rfl (Nat.le_of_ble_eq_true rfl) (Nat.le_trans (m := 3) (Nat.le_of_ble_eq_true rfl) hd0) dX12_endOne_3 (fun v1 S2 _ => ?_)
  refine j_aload_n 0 dX12_endOne_6 rfl rfl ?_
  refine j_iconst dX12_endOne_7 ?_
  refine j_putz (ci := 12) (k := 18) (ty0 := tyX12) rfl in_X12 (Nat.le_of_ble_eq_true rfl) rfl tyX12_ok nmX12 rfl rfl (by decide +kernel) jz1 fl_X12_196 dX12_endOne_8 (fun S3 => ?_)
  refine j_aload_n 0 dX12_endOne_11 rfl rfl ?_
  refine j_get (ci := 12) (k := 16) (t := 0) rfl in_X12 (Nat.le_of_ble_eq_true rfl) rfl rfl fl_X12_150 dX12_endOne_12 (fun (v4 : Int) (hv4 : R32 (v4)) => ?_)
  refine j_if_eq (tgt := 34) hv4 dX12_endOne_15 rfl (fun _ => ?_) (fun _ => ?_)
  · refine j_sub [] rfl ?_
    exact p_f_X12_endOne_b34 hd0 S3
  · refine j_aload_n 0 dX12_endOne_18 rfl rfl ?_
    refine j_getr (ci := 12) (k := 15) rfl in_X12 (Nat.le_of_ble_eq_true rfl) rfl rfl fl_X12_29 dX12_endOne_19 (fun (v5 : Int) (hv5 : 0 ≤ v5) => ?_)
    refine j_aload_n 0 dX12_endOne_22 rfl rfl ?_
    refine j_get (ci := 12) (k := 16) (t := 0) rfl in_X12 (Nat.le_of_ble_eq_true rfl) rfl rfl fl_X12_150 dX12_endOne_23 (fun (v6 : Int) (hv6 : R32 (v6)) => ?_)
    refine j_iconst dX12_endOne_26 ?_
    refine j_isub dX12_endOne_27 ?_
    refine j_iaload (w32_R _) dX12_endOne_28 (fun (v7 : Int) (hv7 : R32 (v7)) => ?_)
    refine j_bipush dX12_endOne_29 (by decide) ?_
    refine j_icmp_eq (tgt := 36) hv7 (j_r32 41 rfl) dX12_endOne_31 rfl (fun _ => ?_) (fun _ => ?_)
    · refine j_aload_n 0 dX12_endOne_36 rfl rfl ?_
      refine j_bipush dX12_endOne_37 (by decide) ?_
      refine j_bipush dX12_endOne_39 (by decide) ?_
      refine j_callS (As := [(0, 98), (0, 121)]) (st := [(2, a0)]) kc_X12_w2 (c_X12_w2 98 121 S3 (j_r32 98 rfl) (j_r32 121 rfl)) lm_X12_124 ks_X12_w2 rfl (Nat.le_of_ble_eq_true rfl) (Nat.le_trans (m := 3) (Nat.le_of_ble_eq_true rfl) hd0) dX12_endOne_41 (fun (v8 : Int) (S9 : jSt) (hv8 : R64 (v8)) => ?_)
      refine j_callV (ci := 12) (As := [(1, v8)]) (st := []) kc_X12_isWord (c_X12_isWord a0 v8 S9 h0 hv8) rfl lm_X12_185 ki_X12_isWord ke_X12_isWord rfl (Nat.le_of_ble_eq_true rfl) (Nat.le_trans (m := 3) (Nat.le_of_ble_eq_true rfl) hd0) dX12_endOne_44 (fun (v10 : Int) (S11 : jSt) (hv10 : (v10) = 0 ∨ (v10) = 1) => ?_)
      refine j_if_ne (tgt := 52) (jZ_R hv10) dX12_endOne_47 rfl (fun _ => ?_) (fun _ => ?_)
      · refine j_aload_n 0 dX12_endOne_52 rfl rfl ?_
        refine j_callV (ci := 12) (As := []) (st := []) kc_X12_nextToken (c_X12_nextToken a0 S11 h0) rfl lm_X12_170 ki_X12_nextToken ke_X12_nextToken rfl (Nat.le_of_ble_eq_true rfl) (Nat.le_trans (m := 3) (Nat.le_of_ble_eq_true rfl) hd0) dX12_endOne_53 (fun v12 S13 _ => ?_)
        refine j_aload_n 0 dX12_endOne_56 rfl rfl ?_
        refine j_getr (ci := 12) (k := 15) rfl in_X12 (Nat.le_of_ble_eq_true rfl) rfl rfl fl_X12_29 dX12_endOne_57 (fun (v14 : Int) (hv14 : 0 ≤ v14) => ?_)
        refine j_aload_n 0 dX12_endOne_60 rfl rfl ?_
        refine j_get (ci := 12) (k := 16) (t := 0) rfl in_X12 (Nat.le_of_ble_eq_true rfl) rfl rfl fl_X12_150 dX12_endOne_61 (fun (v15 : Int) (hv15 : R32 (v15)) => ?_)
        refine j_iconst dX12_endOne_64 ?_
        refine j_isub dX12_endOne_65 ?_
        refine j_iconst dX12_endOne_66 ?_
        refine j_iastore (w32_R _) (j_r32 4 rfl) dX12_endOne_67 (fun S16 => ?_)
        refine j_aload_n 0 dX12_endOne_68 rfl rfl ?_
        refine j_iconst dX12_endOne_69 ?_
        refine j_putz (ci := 12) (k := 18) (ty0 := tyX12) rfl in_X12 (Nat.le_of_ble_eq_true rfl) rfl tyX12_ok nmX12 rfl rfl (by decide +kernel) jz0 fl_X12_196 dX12_endOne_70 (fun S17 => ?_)
        refine j_iconst dX12_endOne_73 ?_
        exact j_ireturn (jZ_R jz0) dX12_endOne_74
      · refine j_iconst dX12_endOne_50 ?_
        exact j_ireturn (jZ_R jz1) dX12_endOne_51
    · refine j_sub [] rfl ?_
      exact p_f_X12_endOne_b34 hd0 S3
theorem c_X12_endOne {G : jG} (a0 : Int) (S : jSt) (h0 : 0 ≤ (a0)) : CT G yX12_endOne cX12_endOne 1 (some .int) 3 ([(2, a0)].map jval) S (f_X12_endOne a0 S) := ct_of [(2, a0)] (by decide) rfl (Nat.le_of_ble_eq_true rfl) (e_X12_endOne (Nat.le_refl _) a0 S h0)
-- X12_openAt
def f_X12_openAt_b28 (x0 : Int) (S : jSt) : Option (Int × jSt) :=
  some (x0, S)
theorem p_f_X12_openAt_b28 {G : jG} {d : Nat} {S0 : jSt} (hd0 : 1 ≤ d) : ∀ (x0 : Int) (S : jSt), (R32 (x0)) → J G yX12_openAt cX12_openAt 2 (some .int) d S0 28 [(1, 0, x0)] [] S (f_X12_openAt_b28  x0 S) := by
  intro x0 S h0
  unfold f_X12_openAt_b28
  refine j_iload_n 0 dX12_openAt_28 rfl rfl ?_
  exact j_ireturn h0 dX12_openAt_29
def f_X12_openAt_b7B (r7 : Int → Int → jSt → Option (Int × jSt)) (x0 : Int) (x1 : Int) (S : jSt) : Option (Int × jSt) :=
  if x1 < 0 then f_X12_openAt_b28 x1 S else fgetr S x0 12 15 (fun v3 => fald S v3 x1 1 (fun v4 => if 40 ≤ v4 then f_X12_openAt_b28 x1 S else flet (w32 (x1 + (-1))) (fun v5 => r7 x0 v5 S)))
theorem p_f_X12_openAt_b7B {G : jG} {d : Nat} {S0 : jSt} (hd0 : 1 ≤ d) {r7 : Int → Int → jSt → Option (Int × jSt)} (k7 : ∀ (x0 : Int) (x1 : Int) (S : jSt), (0 ≤ (x0)) → (R32 (x1)) → J G yX12_openAt cX12_openAt 2 (some .int) d S0 7 [(0, 2, x0), (1, 0, x1)] [] S (r7 x0 x1 S)) : ∀ (x0 : Int) (x1 : Int) (S : jSt), (0 ≤ (x0)) → (R32 (x1)) → J G yX12_openAt cX12_openAt 2 (some .int) d S0 7 [(0, 2, x0), (1, 0, x1)] [] S (f_X12_openAt_b7B r7 x0 x1 S) := by
  intro x0 x1 S h0 h1
  unfold f_X12_openAt_b7B
  refine j_iload_n 1 dX12_openAt_7 rfl rfl ?_
  refine j_if_lt (tgt := 28) h1 dX12_openAt_8 rfl (fun _ => ?_) (fun _ => ?_)
  · refine j_sub [1] rfl ?_
    exact p_f_X12_openAt_b28 hd0 x1 S h1
  · refine j_aload_n 0 dX12_openAt_11 rfl rfl ?_
    refine j_getr (ci := 12) (k := 15) rfl in_X12 (Nat.le_of_ble_eq_true rfl) rfl rfl fl_X12_29 dX12_openAt_12 (fun (v3 : Int) (hv3 : 0 ≤ v3) => ?_)
    refine j_iload_n 1 dX12_openAt_15 rfl rfl ?_
    refine j_iaload h1 dX12_openAt_16 (fun (v4 : Int) (hv4 : R32 (v4)) => ?_)
    refine j_bipush dX12_openAt_17 (by decide) ?_
    refine j_icmp_ge (tgt := 28) hv4 (j_r32 40 rfl) dX12_openAt_19 rfl (fun _ => ?_) (fun _ => ?_)
    · refine j_sub [1] rfl ?_
      exact p_f_X12_openAt_b28 hd0 x1 S h1
    · refine j_iincL (q := 1) dX12_openAt_22 rfl (Nat.le_of_ble_eq_true rfl) (fun v5 hv5 => ?_)
      refine j_lv (lv' := [(1, 0, v5), (0, 2, x0)]) rfl ?_
      refine j_goto (tgt := 7) dX12_openAt_25 rfl ?_
      refine j_sub [1, 0] rfl ?_
      exact k7 x0 v5 S h0 hv5
def f_X12_openAt_b7 : Int → Int → jSt → Option (Int × jSt) := jrep (β := Int → Int → jSt → Option (Int × jSt)) (fun _ _ _ => none) (fun r => f_X12_openAt_b7B r) jN
theorem p_f_X12_openAt_b7 {G : jG} {d : Nat} {S0 : jSt} (hd0 : 1 ≤ d) : ∀ (x0 : Int) (x1 : Int) (S : jSt), (0 ≤ (x0)) → (R32 (x1)) → J G yX12_openAt cX12_openAt 2 (some .int) d S0 7 [(0, 2, x0), (1, 0, x1)] [] S (f_X12_openAt_b7  x0 x1 S) :=
  jrep_ind (P := fun (r : Int → Int → jSt → Option (Int × jSt)) => ∀ (x0 : Int) (x1 : Int) (S : jSt), (0 ≤ (x0)) → (R32 (x1)) → J G yX12_openAt cX12_openAt 2 (some .int) d S0 7 [(0, 2, x0), (1, 0, x1)] [] S (r x0 x1 S)) (by intros; exact j_none) (fun r k => p_f_X12_openAt_b7B hd0 k) jN
def f_X12_openAt (a0 : Int) (S : jSt) : Option (Int × jSt) :=
  fget S a0 12 16 (fun v1 => flet (w32 (v1 - 1)) (fun v2 => f_X12_openAt_b7 a0 v2 S))
theorem e_X12_openAt {G : jG} {d : Nat} {S0 : jSt} (hd0 : 1 ≤ d) (a0 : Int) (S : jSt) (h0 : 0 ≤ (a0)) : J G yX12_openAt cX12_openAt 2 (some .int) d S0 0 [(0, 2, a0)] [] S (f_X12_openAt a0 S) := by
  unfold f_X12_openAt
  refine j_aload_n 0 dX12_openAt_0 rfl rfl ?_
  refine j_get (ci := 12) (k := 16) (t := 0) rfl in_X12 (Nat.le_of_ble_eq_true rfl) rfl rfl fl_X12_150 dX12_openAt_1 (fun (v1 : Int) (hv1 : R32 (v1)) => ?_)
  refine j_iconst dX12_openAt_4 ?_
  refine j_isub dX12_openAt_5 ?_
  refine j_leti (w32_R _) (fun v2 hv2 => ?_)
  refine j_istore_n (lv' := [(1, 0, v2), (0, 2, a0)]) dX12_openAt_6 rfl (Nat.le_of_ble_eq_true rfl) rfl ?_
  refine j_sub [1, 0] rfl ?_
  exact p_f_X12_openAt_b7 hd0 a0 v2 S h0 hv2
theorem c_X12_openAt {G : jG} (a0 : Int) (S : jSt) (h0 : 0 ≤ (a0)) : CT G yX12_openAt cX12_openAt 2 (some .int) 1 ([(2, a0)].map jval) S (f_X12_openAt a0 S) := ct_of [(2, a0)] (by decide) rfl (Nat.le_of_ble_eq_true rfl) (e_X12_openAt (Nat.le_refl _) a0 S h0)
-- X12_openNow
def f_X12_openNow_b20 (x0 : Int) (S : jSt) : Option (Int × jSt) :=
  some (x0, S)
theorem p_f_X12_openNow_b20 {G : jG} {d : Nat} {S0 : jSt} (hd0 : 2 ≤ d) : ∀ (x0 : Int) (S : jSt), (R32 (x0)) → J G yX12_openNow cX12_openNow 1 (some .int) d S0 20 [] [(0, x0)] S (f_X12_openNow_b20  x0 S) := by
  intro x0 S h0
  unfold f_X12_openNow_b20
  exact j_ireturn h0 dX12_openNow_20
def f_X12_openNow (a0 : Int) (S : jSt) : Option (Int × jSt) :=
  fcallv S a0 12 (f_X12_openAt a0 S) (fun v1 S2 => if 0 ≤ v1 then fgetr S2 a0 12 15 (fun v3 => fcallv S2 a0 12 (f_X12_openAt a0 S2) (fun v4 S5 => fald S5 v3 v4 1 (fun v6 => f_X12_openNow_b20 v6 S5))) else f_X12_openNow_b20 (-1) S2)
theorem e_X12_openNow {G : jG} {d : Nat} {S0 : jSt} (hd0 : 2 ≤ d) (a0 : Int) (S : jSt) (h0 : 0 ≤ (a0)) : J G yX12_openNow cX12_openNow 1 (some .int) d S0 0 [(0, 2, a0)] [] S (f_X12_openNow a0 S) := by
  unfold f_X12_openNow
  refine j_aload_n 0 dX12_openNow_0 rfl rfl ?_
  refine j_callV (ci := 12) (As := []) (st := []) kc_X12_openAt (c_X12_openAt a0 S h0) rfl lm_X12_163 ki_X12_openAt ke_X12_openAt rfl (Nat.le_of_ble_eq_true rfl) (Nat.le_trans (m := 2) (Nat.le_of_ble_eq_true rfl) hd0) dX12_openNow_1 (fun (v1 : Int) (S2 : jSt) (hv1 : R32 (v1)) => ?_)
  refine j_if_ge (tgt := 11) hv1 dX12_openNow_4 rfl (fun _ => ?_) (fun _ => ?_)
  · refine j_aload_n 0 dX12_openNow_11 rfl rfl ?_
    refine j_getr (ci := 12) (k := 15) rfl in_X12 (Nat.le_of_ble_eq_true rfl) rfl rfl fl_X12_29 dX12_openNow_12 (fun (v3 : Int) (hv3 : 0 ≤ v3) => ?_)
    refine j_aload_n 0 dX12_openNow_15 rfl rfl ?_
    refine j_callV (ci := 12) (As := []) (st := [(2, v3)]) kc_X12_openAt (c_X12_openAt a0 S2 h0) rfl lm_X12_163 ki_X12_openAt ke_X12_openAt rfl (Nat.le_of_ble_eq_true rfl) (Nat.le_trans (m := 2) (Nat.le_of_ble_eq_true rfl) hd0) dX12_openNow_16 (fun (v4 : Int) (S5 : jSt) (hv4 : R32 (v4)) => ?_)
    refine j_iaload hv4 dX12_openNow_19 (fun (v6 : Int) (hv6 : R32 (v6)) => ?_)
    refine j_sub [] rfl ?_
    exact p_f_X12_openNow_b20 hd0 v6 S5 hv6
  · refine j_iconst dX12_openNow_7 ?_
    refine j_goto (tgt := 20) dX12_openNow_8 rfl ?_
    refine j_sub [] rfl ?_
    exact p_f_X12_openNow_b20 hd0 (-1) S2 (j_r32 (-1) rfl)
theorem c_X12_openNow {G : jG} (a0 : Int) (S : jSt) (h0 : 0 ≤ (a0)) : CT G yX12_openNow cX12_openNow 1 (some .int) 2 ([(2, a0)].map jval) S (f_X12_openNow a0 S) := ct_of [(2, a0)] (by decide) rfl (Nat.le_of_ble_eq_true rfl) (e_X12_openNow (Nat.le_refl _) a0 S h0)
-- X12_isAskAhead
def f_X12_isAskAhead_b52 (x0 : Int) (S : jSt) : Option (Int × jSt) :=
  some (x0, S)
theorem p_f_X12_isAskAhead_b52 {G : jG} {d : Nat} {S0 : jSt} (hd0 : 3 ≤ d) : ∀ (x0 : Int) (S : jSt), ((x0) = 0 ∨ (x0) = 1) → J G yX12_isAskAhead cX12_isAskAhead 1 (some .boolean) d S0 52 [] [(0, x0)] S (f_X12_isAskAhead_b52  x0 S) := by
  intro x0 S h0
  unfold f_X12_isAskAhead_b52
  exact j_zreturn h0 dX12_isAskAhead_52
def f_X12_isAskAhead_b51 (S : jSt) : Option (Int × jSt) :=
  f_X12_isAskAhead_b52 0 S
theorem p_f_X12_isAskAhead_b51 {G : jG} {d : Nat} {S0 : jSt} (hd0 : 3 ≤ d) : ∀ (S : jSt), J G yX12_isAskAhead cX12_isAskAhead 1 (some .boolean) d S0 51 [] [] S (f_X12_isAskAhead_b51   S) := by
  intro S
  unfold f_X12_isAskAhead_b51
  refine j_iconst dX12_isAskAhead_51 ?_
  exact p_f_X12_isAskAhead_b52 hd0 0 S jz0
def f_X12_isAskAhead_b47 (S : jSt) : Option (Int × jSt) :=
  f_X12_isAskAhead_b52 1 S
theorem p_f_X12_isAskAhead_b47 {G : jG} {d : Nat} {S0 : jSt} (hd0 : 3 ≤ d) : ∀ (S : jSt), J G yX12_isAskAhead cX12_isAskAhead 1 (some .boolean) d S0 47 [] [] S (f_X12_isAskAhead_b47   S) := by
  intro S
  unfold f_X12_isAskAhead_b47
  refine j_iconst dX12_isAskAhead_47 ?_
  refine j_goto (tgt := 52) dX12_isAskAhead_48 rfl ?_
  exact p_f_X12_isAskAhead_b52 hd0 1 S jz1
def f_X12_isAskAhead (a0 : Int) (S : jSt) : Option (Int × jSt) :=
  fcallv S a0 12 (f_X12_openNow a0 S) (fun v1 S2 => if v1 = 42 then fgetr S2 a0 12 15 (fun v3 => fget S2 a0 12 16 (fun v4 => fald S2 v3 (w32 (v4 - 1)) 1 (fun v5 => if 40 ≤ v5 then f_X12_isAskAhead_b47 S2 else fgetr S2 a0 12 15 (fun v6 => fget S2 a0 12 16 (fun v7 => fald S2 v6 (w32 (v7 - 1)) 1 (fun v8 => fcall (f_X12_rank v8 S2) (fun v9 S10 => fcall (f_X12_isIn v9 1 3 S10) (fun v11 S12 => if v11 = 0 then f_X12_isAskAhead_b51 S12 else f_X12_isAskAhead_b47 S12)))))))) else f_X12_isAskAhead_b51 S2)
theorem e_X12_isAskAhead {G : jG} {d : Nat} {S0 : jSt} (hd0 : 3 ≤ d) (a0 : Int) (S : jSt) (h0 : 0 ≤ (a0)) : J G yX12_isAskAhead cX12_isAskAhead 1 (some .boolean) d S0 0 [(0, 2, a0)] [] S (f_X12_isAskAhead a0 S) := by
  unfold f_X12_isAskAhead
  refine j_aload_n 0 dX12_isAskAhead_0 rfl rfl ?_
  refine j_callV (ci := 12) (As := []) (st := []) kc_X12_openNow (c_X12_openNow a0 S h0) rfl lm_X12_167 ki_X12_openNow ke_X12_openNow rfl (Nat.le_of_ble_eq_true rfl) (Nat.le_trans (m := 3) (Nat.le_of_ble_eq_true rfl) hd0) dX12_isAskAhead_1 (fun (v1 : Int) (S2 : jSt) (hv1 : R32 (v1)) => ?_)
  refine j_bipush dX12_isAskAhead_4 (by decide) ?_
  refine j_icmp_ne (tgt := 51) hv1 (j_r32 42 rfl) dX12_isAskAhead_6 rfl (fun _ => ?_) (fun _ => ?_)
  · refine j_sub [] rfl ?_
    exact p_f_X12_isAskAhead_b51 hd0 S2
  · refine j_aload_n 0 dX12_isAskAhead_9 rfl rfl ?_
    refine j_getr (ci := 12) (k := 15) rfl in_X12 (Nat.le_of_ble_eq_true rfl) rfl rfl fl_X12_29 dX12_isAskAhead_10 (fun (v3 : Int) (hv3 : 0 ≤ v3) => ?_)
    refine j_aload_n 0 dX12_isAskAhead_13 rfl rfl ?_
    refine j_get (ci := 12) (k := 16) (t := 0) rfl in_X12 (Nat.le_of_ble_eq_true rfl) rfl rfl fl_X12_150 dX12_isAskAhead_14 (fun (v4 : Int) (hv4 : R32 (v4)) => ?_)
    refine j_iconst dX12_isAskAhead_17 ?_
    refine j_isub dX12_isAskAhead_18 ?_
    refine j_iaload (w32_R _) dX12_isAskAhead_19 (fun (v5 : Int) (hv5 : R32 (v5)) => ?_)
    refine j_bipush dX12_isAskAhead_20 (by decide) ?_
    refine j_icmp_ge (tgt := 47) hv5 (j_r32 40 rfl) dX12_isAskAhead_22 rfl (fun _ => ?_) (fun _ => ?_)
    · refine j_sub [] rfl ?_
      exact p_f_X12_isAskAhead_b47 hd0 S2
    · refine j_aload_n 0 dX12_isAskAhead_25 rfl rfl ?_
      refine j_getr (ci := 12) (k := 15) rfl in_X12 (Nat.le_of_ble_eq_true rfl) rfl rfl fl_X12_29 dX12_isAskAhead_26 (fun (v6 : Int) (hv6 : 0 ≤ v6) => ?_)
      refine j_aload_n 0 dX12_isAskAhead_29 rfl rfl ?_
      refine j_get (ci := 12) (k := 16) (t := 0) rfl in_X12 (Nat.le_of_ble_eq_true rfl) rfl rfl fl_X12_150 dX12_isAskAhead_30 (fun (v7 : Int) (hv7 : R32 (v7)) => ?_)
      refine j_iconst dX12_isAskAhead_33 ?_
      refine j_isub dX12_isAskAhead_34 ?_
      refine j_iaload (w32_R _) dX12_isAskAhead_35 (fun (v8 : Int) (hv8 : R32 (v8)) => ?_)
      refine j_callS (As := [(0, v8)]) (st := []) kc_X12_rank (c_X12_rank v8 S2 hv8) lm_X12_153 ks_X12_rank rfl (Nat.le_of_ble_eq_true rfl) (Nat.le_trans (m := 3) (Nat.le_of_ble_eq_true rfl) hd0) dX12_isAskAhead_36 (fun (v9 : Int) (S10 : jSt) (hv9 : R32 (v9)) => ?_)
      refine j_iconst dX12_isAskAhead_39 ?_
      refine j_iconst dX12_isAskAhead_40 ?_
      refine j_callS (As := [(0, v9), (0, 1), (0, 3)]) (st := []) kc_X12_isIn (c_X12_isIn v9 1 3 S10 hv9 (jZ_R jz1) (j_r32 3 rfl)) lm_X12_60 ks_X12_isIn rfl (Nat.le_of_ble_eq_true rfl) (Nat.le_trans (m := 3) (Nat.le_of_ble_eq_true rfl) hd0) dX12_isAskAhead_41 (fun (v11 : Int) (S12 : jSt) (hv11 : (v11) = 0 ∨ (v11) = 1) => ?_)
      refine j_if_eq (tgt := 51) (jZ_R hv11) dX12_isAskAhead_44 rfl (fun _ => ?_) (fun _ => ?_)
      · refine j_sub [] rfl ?_
        exact p_f_X12_isAskAhead_b51 hd0 S12
      · refine j_sub [] rfl ?_
        exact p_f_X12_isAskAhead_b47 hd0 S12
theorem c_X12_isAskAhead {G : jG} (a0 : Int) (S : jSt) (h0 : 0 ≤ (a0)) : CT G yX12_isAskAhead cX12_isAskAhead 1 (some .boolean) 3 ([(2, a0)].map jval) S (f_X12_isAskAhead a0 S) := ct_of [(2, a0)] (by decide) rfl (Nat.le_of_ble_eq_true rfl) (e_X12_isAskAhead (Nat.le_refl _) a0 S h0)
-- X12_w3
def f_X12_w3 (a0 : Int) (a1 : Int) (a2 : Int) (S : jSt) : Option (Int × jSt) :=
  fcall (f_X12_w2 a0 a1 S) (fun v1 S2 => some (lor64 (lshl64 v1 8) a2, S2))
theorem e_X12_w3 {G : jG} {d : Nat} {S0 : jSt} (hd0 : 2 ≤ d) (a0 : Int) (a1 : Int) (a2 : Int) (S : jSt) (h0 : R32 (a0)) (h1 : R32 (a1)) (h2 : R32 (a2)) : J G yX12_w3 cX12_w3 3 (some .long) d S0 0 [(0, 0, a0), (1, 0, a1), (2, 0, a2)] [] S (f_X12_w3 a0 a1 a2 S) := by
  unfold f_X12_w3
  refine j_iload_n 0 dX12_w3_0 rfl rfl ?_
  refine j_iload_n 1 dX12_w3_1 rfl rfl ?_
  refine j_callS (As := [(0, a0), (0, a1)]) (st := []) kc_X12_w2 (c_X12_w2 a0 a1 S h0 h1) lm_X12_124 ks_X12_w2 rfl (Nat.le_of_ble_eq_true rfl) (Nat.le_trans (m := 2) (Nat.le_of_ble_eq_true rfl) hd0) dX12_w3_2 (fun (v1 : Int) (S2 : jSt) (hv1 : R64 (v1)) => ?_)
  refine j_bipush dX12_w3_5 (by decide) ?_
  refine j_lshl dX12_w3_7 ?_
  refine j_iload_n 2 dX12_w3_8 rfl rfl ?_
  refine j_i2l h2 dX12_w3_9 ?_
  refine j_lor dX12_w3_10 ?_
  exact j_lreturn (lor64_R _ _) dX12_w3_11
theorem c_X12_w3 {G : jG} (a0 : Int) (a1 : Int) (a2 : Int) (S : jSt) (h0 : R32 (a0)) (h1 : R32 (a1)) (h2 : R32 (a2)) : CT G yX12_w3 cX12_w3 3 (some .long) 2 ([(0, a0), (0, a1), (0, a2)].map jval) S (f_X12_w3 a0 a1 a2 S) := ct_of [(0, a0), (0, a1), (0, a2)] (by decide) rfl (Nat.le_of_ble_eq_true rfl) (e_X12_w3 (Nat.le_refl _) a0 a1 a2 S h0 h1 h2)
-- X12_w4
def f_X12_w4 (a0 : Int) (a1 : Int) (a2 : Int) (a3 : Int) (S : jSt) : Option (Int × jSt) :=
  fcall (f_X12_w3 a0 a1 a2 S) (fun v1 S2 => some (lor64 (lshl64 v1 8) a3, S2))
theorem e_X12_w4 {G : jG} {d : Nat} {S0 : jSt} (hd0 : 3 ≤ d) (a0 : Int) (a1 : Int) (a2 : Int) (a3 : Int) (S : jSt) (h0 : R32 (a0)) (h1 : R32 (a1)) (h2 : R32 (a2)) (h3 : R32 (a3)) : J G yX12_w4 cX12_w4 4 (some .long) d S0 0 [(0, 0, a0), (1, 0, a1), (2, 0, a2), (3, 0, a3)] [] S (f_X12_w4 a0 a1 a2 a3 S) := by
  unfold f_X12_w4
  refine j_iload_n 0 dX12_w4_0 rfl rfl ?_
  refine j_iload_n 1 dX12_w4_1 rfl rfl ?_
  refine j_iload_n 2 dX12_w4_2 rfl rfl ?_
  refine j_callS (As := [(0, a0), (0, a1), (0, a2)]) (st := []) kc_X12_w3 (c_X12_w3 a0 a1 a2 S h0 h1 h2) lm_X12_128 ks_X12_w3 rfl (Nat.le_of_ble_eq_true rfl) (Nat.le_trans (m := 3) (Nat.le_of_ble_eq_true rfl) hd0) dX12_w4_3 (fun (v1 : Int) (S2 : jSt) (hv1 : R64 (v1)) => ?_)
  refine j_bipush dX12_w4_6 (by decide) ?_
  refine j_lshl dX12_w4_8 ?_
  refine j_iload_n 3 dX12_w4_9 rfl rfl ?_
  refine j_i2l h3 dX12_w4_10 ?_
  refine j_lor dX12_w4_11 ?_
  exact j_lreturn (lor64_R _ _) dX12_w4_12
theorem c_X12_w4 {G : jG} (a0 : Int) (a1 : Int) (a2 : Int) (a3 : Int) (S : jSt) (h0 : R32 (a0)) (h1 : R32 (a1)) (h2 : R32 (a2)) (h3 : R32 (a3)) : CT G yX12_w4 cX12_w4 4 (some .long) 3 ([(0, a0), (0, a1), (0, a2), (0, a3)].map jval) S (f_X12_w4 a0 a1 a2 a3 S) := ct_of [(0, a0), (0, a1), (0, a2), (0, a3)] (by decide) rfl (Nat.le_of_ble_eq_true rfl) (e_X12_w4 (Nat.le_refl _) a0 a1 a2 a3 S h0 h1 h2 h3)
-- X12_w5
def f_X12_w5 (a0 : Int) (a1 : Int) (a2 : Int) (a3 : Int) (a4 : Int) (S : jSt) : Option (Int × jSt) :=
  fcall (f_X12_w4 a0 a1 a2 a3 S) (fun v1 S2 => some (lor64 (lshl64 v1 8) a4, S2))
theorem e_X12_w5 {G : jG} {d : Nat} {S0 : jSt} (hd0 : 4 ≤ d) (a0 : Int) (a1 : Int) (a2 : Int) (a3 : Int) (a4 : Int) (S : jSt) (h0 : R32 (a0)) (h1 : R32 (a1)) (h2 : R32 (a2)) (h3 : R32 (a3)) (h4 : R32 (a4)) : J G yX12_w5 cX12_w5 5 (some .long) d S0 0 [(0, 0, a0), (1, 0, a1), (2, 0, a2), (3, 0, a3), (4, 0, a4)] [] S (f_X12_w5 a0 a1 a2 a3 a4 S) := by
  unfold f_X12_w5
  refine j_iload_n 0 dX12_w5_0 rfl rfl ?_
  refine j_iload_n 1 dX12_w5_1 rfl rfl ?_
  refine j_iload_n 2 dX12_w5_2 rfl rfl ?_
  refine j_iload_n 3 dX12_w5_3 rfl rfl ?_
  refine j_callS (As := [(0, a0), (0, a1), (0, a2), (0, a3)]) (st := []) kc_X12_w4 (c_X12_w4 a0 a1 a2 a3 S h0 h1 h2 h3) lm_X12_132 ks_X12_w4 rfl (Nat.le_of_ble_eq_true rfl) (Nat.le_trans (m := 4) (Nat.le_of_ble_eq_true rfl) hd0) dX12_w5_4 (fun (v1 : Int) (S2 : jSt) (hv1 : R64 (v1)) => ?_)
  refine j_bipush dX12_w5_7 (by decide) ?_
  refine j_lshl dX12_w5_9 ?_
  refine j_iload 4 dX12_w5_10 rfl ?_
  refine j_i2l h4 dX12_w5_12 ?_
  refine j_lor dX12_w5_13 ?_
  exact j_lreturn (lor64_R _ _) dX12_w5_14
theorem c_X12_w5 {G : jG} (a0 : Int) (a1 : Int) (a2 : Int) (a3 : Int) (a4 : Int) (S : jSt) (h0 : R32 (a0)) (h1 : R32 (a1)) (h2 : R32 (a2)) (h3 : R32 (a3)) (h4 : R32 (a4)) : CT G yX12_w5 cX12_w5 5 (some .long) 4 ([(0, a0), (0, a1), (0, a2), (0, a3), (0, a4)].map jval) S (f_X12_w5 a0 a1 a2 a3 a4 S) := ct_of [(0, a0), (0, a1), (0, a2), (0, a3), (0, a4)] (by decide) rfl (Nat.le_of_ble_eq_true rfl) (e_X12_w5 (Nat.le_refl _) a0 a1 a2 a3 a4 S h0 h1 h2 h3 h4)
-- X12_w6
def f_X12_w6 (a0 : Int) (a1 : Int) (a2 : Int) (a3 : Int) (a4 : Int) (a5 : Int) (S : jSt) : Option (Int × jSt) :=
  fcall (f_X12_w5 a0 a1 a2 a3 a4 S) (fun v1 S2 => some (lor64 (lshl64 v1 8) a5, S2))
theorem e_X12_w6 {G : jG} {d : Nat} {S0 : jSt} (hd0 : 5 ≤ d) (a0 : Int) (a1 : Int) (a2 : Int) (a3 : Int) (a4 : Int) (a5 : Int) (S : jSt) (h0 : R32 (a0)) (h1 : R32 (a1)) (h2 : R32 (a2)) (h3 : R32 (a3)) (h4 : R32 (a4)) (h5 : R32 (a5)) : J G yX12_w6 cX12_w6 6 (some .long) d S0 0 [(0, 0, a0), (1, 0, a1), (2, 0, a2), (3, 0, a3), (4, 0, a4), (5, 0, a5)] [] S (f_X12_w6 a0 a1 a2 a3 a4 a5 S) := by
  unfold f_X12_w6
  refine j_iload_n 0 dX12_w6_0 rfl rfl ?_
  refine j_iload_n 1 dX12_w6_1 rfl rfl ?_
  refine j_iload_n 2 dX12_w6_2 rfl rfl ?_
  refine j_iload_n 3 dX12_w6_3 rfl rfl ?_
  refine j_iload 4 dX12_w6_4 rfl ?_
  refine j_callS (As := [(0, a0), (0, a1), (0, a2), (0, a3), (0, a4)]) (st := []) kc_X12_w5 (c_X12_w5 a0 a1 a2 a3 a4 S h0 h1 h2 h3 h4) lm_X12_136 ks_X12_w5 rfl (Nat.le_of_ble_eq_true rfl) (Nat.le_trans (m := 5) (Nat.le_of_ble_eq_true rfl) hd0) dX12_w6_6 (fun (v1 : Int) (S2 : jSt) (hv1 : R64 (v1)) => ?_)
  refine j_bipush dX12_w6_9 (by decide) ?_
  refine j_lshl dX12_w6_11 ?_
  refine j_iload 5 dX12_w6_12 rfl ?_
  refine j_i2l h5 dX12_w6_14 ?_
  refine j_lor dX12_w6_15 ?_
  exact j_lreturn (lor64_R _ _) dX12_w6_16
theorem c_X12_w6 {G : jG} (a0 : Int) (a1 : Int) (a2 : Int) (a3 : Int) (a4 : Int) (a5 : Int) (S : jSt) (h0 : R32 (a0)) (h1 : R32 (a1)) (h2 : R32 (a2)) (h3 : R32 (a3)) (h4 : R32 (a4)) (h5 : R32 (a5)) : CT G yX12_w6 cX12_w6 6 (some .long) 5 ([(0, a0), (0, a1), (0, a2), (0, a3), (0, a4), (0, a5)].map jval) S (f_X12_w6 a0 a1 a2 a3 a4 a5 S) := ct_of [(0, a0), (0, a1), (0, a2), (0, a3), (0, a4), (0, a5)] (by decide) rfl (Nat.le_of_ble_eq_true rfl) (e_X12_w6 (Nat.le_refl _) a0 a1 a2 a3 a4 a5 S h0 h1 h2 h3 h4 h5)
-- X12_nameOf
def f_X12_nameOf_b211 (x0 : Int) (S : jSt) : Option (Int × jSt) :=
  some (x0, S)
theorem p_f_X12_nameOf_b211 {G : jG} {d : Nat} {S0 : jSt} (hd0 : 6 ≤ d) : ∀ (x0 : Int) (S : jSt), (R32 (x0)) → J G yX12_nameOf cX12_nameOf 1 (some .int) d S0 211 [] [(0, x0)] S (f_X12_nameOf_b211  x0 S) := by
  intro x0 S h0
  unfold f_X12_nameOf_b211
  exact j_ireturn h0 dX12_nameOf_211
def f_X12_nameOf (a0 : Int) (S : jSt) : Option (Int × jSt) :=
  fget S a0 12 9 (fun v1 => if v1 = 2 then fget S a0 12 11 (fun v2 => fcall (f_X12_w4 119 101 101 107 S) (fun v3 S4 => if v2 = v3 then some (0, S4) else fget S4 a0 12 11 (fun v5 => fcall (f_X12_w5 102 108 111 111 114 S4) (fun v6 S7 => if v5 = v6 then some (1, S7) else fget S7 a0 12 11 (fun v8 => fcall (f_X12_w5 119 111 114 116 104 S7) (fun v9 S10 => if v8 = v9 then some (2, S10) else fget S10 a0 12 11 (fun v11 => fcall (f_X12_w6 119 101 105 103 104 116 S10) (fun v12 S13 => if v11 = v12 then some (3, S13) else fget S13 a0 12 11 (fun v14 => fcall (f_X12_w3 108 111 116 S13) (fun v15 S16 => if v14 = v15 then some (4, S16) else fget S16 a0 12 11 (fun v17 => fcall (f_X12_w4 119 97 110 116 S16) (fun v18 S19 => if v17 = v18 then some (5, S19) else fget S19 a0 12 11 (fun v20 => fcall (f_X12_w5 112 117 114 115 101 S19) (fun v21 S22 => if v20 = v21 then some (6, S22) else fget S22 a0 12 11 (fun v23 => fcall (f_X12_w3 119 104 111 S22) (fun v24 S25 => if v23 = v24 then f_X12_nameOf_b211 7 S25 else fget S25 a0 12 11 (fun v26 => fcall (f_X12_w3 104 97 115 S25) (fun v27 S28 => if v26 = v27 then f_X12_nameOf_b211 8 S28 else f_X12_nameOf_b211 (-1) S28)))))))))))))))))) else some ((-1), S))
theorem e_X12_nameOf {G : jG} {d : Nat} {S0 : jSt} (hd0 : 6 ≤ d) (a0 : Int) (S : jSt) (h0 : 0 ≤ (a0)) : J G yX12_nameOf cX12_nameOf 1 (some .int) d S0 0 [(0, 2, a0)] [] S (f_X12_nameOf a0 S) := by
  unfold f_X12_nameOf
  refine j_aload_n 0 dX12_nameOf_0 rfl rfl ?_
  refine j_get (ci := 12) (k := 9) (t := 0) rfl in_X12 (Nat.le_of_ble_eq_true rfl) rfl rfl fl_X12_102 dX12_nameOf_1 (fun (v1 : Int) (hv1 : R32 (v1)) => ?_)
  refine j_iconst dX12_nameOf_4 ?_
  refine j_icmp_eq (tgt := 10) hv1 (j_r32 2 rfl) dX12_nameOf_5 rfl (fun _ => ?_) (fun _ => ?_)
  · refine j_aload_n 0 dX12_nameOf_10 rfl rfl ?_
    refine j_get (ci := 12) (k := 11) (t := 1) rfl in_X12 (Nat.le_of_ble_eq_true rfl) rfl rfl fl_X12_115 dX12_nameOf_11 (fun (v2 : Int) (hv2 : R64 (v2)) => ?_)
    refine j_bipush dX12_nameOf_14 (by decide) ?_
    refine j_bipush dX12_nameOf_16 (by decide) ?_
    refine j_bipush dX12_nameOf_18 (by decide) ?_
    refine j_bipush dX12_nameOf_20 (by decide) ?_
    refine j_callS (As := [(0, 119), (0, 101), (0, 101), (0, 107)]) (st := [(1, v2)]) kc_X12_w4 (c_X12_w4 119 101 101 107 S (j_r32 119 rfl) (j_r32 101 rfl) (j_r32 101 rfl) (j_r32 107 rfl)) lm_X12_132 ks_X12_w4 rfl (Nat.le_of_ble_eq_true rfl) (Nat.le_trans (m := 6) (Nat.le_of_ble_eq_true rfl) hd0) dX12_nameOf_22 (fun (v3 : Int) (S4 : jSt) (hv3 : R64 (v3)) => ?_)
    refine j_lcmp_ne (tgt := 31) hv2 hv3 dX12_nameOf_25 dX12_nameOf_26 rfl (fun _ => ?_) (fun _ => ?_)
    · refine j_aload_n 0 dX12_nameOf_31 rfl rfl ?_
      refine j_get (ci := 12) (k := 11) (t := 1) rfl in_X12 (Nat.le_of_ble_eq_true rfl) rfl rfl fl_X12_115 dX12_nameOf_32 (fun (v5 : Int) (hv5 : R64 (v5)) => ?_)
      refine j_bipush dX12_nameOf_35 (by decide) ?_
      refine j_bipush dX12_nameOf_37 (by decide) ?_
      refine j_bipush dX12_nameOf_39 (by decide) ?_
      refine j_bipush dX12_nameOf_41 (by decide) ?_
      refine j_bipush dX12_nameOf_43 (by decide) ?_
      refine j_callS (As := [(0, 102), (0, 108), (0, 111), (0, 111), (0, 114)]) (st := [(1, v5)]) kc_X12_w5 (c_X12_w5 102 108 111 111 114 S4 (j_r32 102 rfl) (j_r32 108 rfl) (j_r32 111 rfl) (j_r32 111 rfl) (j_r32 114 rfl)) lm_X12_136 ks_X12_w5 rfl (Nat.le_of_ble_eq_true rfl) (Nat.le_trans (m := 6) (Nat.le_of_ble_eq_true rfl) hd0) dX12_nameOf_45 (fun (v6 : Int) (S7 : jSt) (hv6 : R64 (v6)) => ?_)
      refine j_lcmp_ne (tgt := 54) hv5 hv6 dX12_nameOf_48 dX12_nameOf_49 rfl (fun _ => ?_) (fun _ => ?_)
      · refine j_aload_n 0 dX12_nameOf_54 rfl rfl ?_
        refine j_get (ci := 12) (k := 11) (t := 1) rfl in_X12 (Nat.le_of_ble_eq_true rfl) rfl rfl fl_X12_115 dX12_nameOf_55 (fun (v8 : Int) (hv8 : R64 (v8)) => ?_)
        refine j_bipush dX12_nameOf_58 (by decide) ?_
        refine j_bipush dX12_nameOf_60 (by decide) ?_
        refine j_bipush dX12_nameOf_62 (by decide) ?_
        refine j_bipush dX12_nameOf_64 (by decide) ?_
        refine j_bipush dX12_nameOf_66 (by decide) ?_
        refine j_callS (As := [(0, 119), (0, 111), (0, 114), (0, 116), (0, 104)]) (st := [(1, v8)]) kc_X12_w5 (c_X12_w5 119 111 114 116 104 S7 (j_r32 119 rfl) (j_r32 111 rfl) (j_r32 114 rfl) (j_r32 116 rfl) (j_r32 104 rfl)) lm_X12_136 ks_X12_w5 rfl (Nat.le_of_ble_eq_true rfl) (Nat.le_trans (m := 6) (Nat.le_of_ble_eq_true rfl) hd0) dX12_nameOf_68 (fun (v9 : Int) (S10 : jSt) (hv9 : R64 (v9)) => ?_)
        refine j_lcmp_ne (tgt := 77) hv8 hv9 dX12_nameOf_71 dX12_nameOf_72 rfl (fun _ => ?_) (fun _ => ?_)
        · refine j_aload_n 0 dX12_nameOf_77 rfl rfl ?_
          refine j_get (ci := 12) (k := 11) (t := 1) rfl in_X12 (Nat.le_of_ble_eq_true rfl) rfl rfl fl_X12_115 dX12_nameOf_78 (fun (v11 : Int) (hv11 : R64 (v11)) => ?_)
          refine j_bipush dX12_nameOf_81 (by decide) ?_
          refine j_bipush dX12_nameOf_83 (by decide) ?_
          refine j_bipush dX12_nameOf_85 (by decide) ?_
          refine j_bipush dX12_nameOf_87 (by decide) ?_
          refine j_bipush dX12_nameOf_89 (by decide) ?_
          refine j_bipush dX12_nameOf_91 (by decide) ?_
          refine j_callS (As := [(0, 119), (0, 101), (0, 105), (0, 103), (0, 104), (0, 116)]) (st := [(1, v11)]) kc_X12_w6 (c_X12_w6 119 101 105 103 104 116 S10 (j_r32 119 rfl) (j_r32 101 rfl) (j_r32 105 rfl) (j_r32 103 rfl) (j_r32 104 rfl) (j_r32 116 rfl)) lm_X12_146 ks_X12_w6 rfl (Nat.le_of_ble_eq_true rfl) (Nat.le_trans (m := 6) (Nat.le_of_ble_eq_true rfl) hd0) dX12_nameOf_93 (fun (v12 : Int) (S13 : jSt) (hv12 : R64 (v12)) => ?_)
          refine j_lcmp_ne (tgt := 102) hv11 hv12 dX12_nameOf_96 dX12_nameOf_97 rfl (fun _ => ?_) (fun _ => ?_)
          · refine j_aload_n 0 dX12_nameOf_102 rfl rfl ?_
            refine j_get (ci := 12) (k := 11) (t := 1) rfl in_X12 (Nat.le_of_ble_eq_true rfl) rfl rfl fl_X12_115 dX12_nameOf_103 (fun (v14 : Int) (hv14 : R64 (v14)) => ?_)
            refine j_bipush dX12_nameOf_106 (by decide) ?_
            refine j_bipush dX12_nameOf_108 (by decide) ?_
            refine j_bipush dX12_nameOf_110 (by decide) ?_
            refine j_callS (As := [(0, 108), (0, 111), (0, 116)]) (st := [(1, v14)]) kc_X12_w3 (c_X12_w3 108 111 116 S13 (j_r32 108 rfl) (j_r32 111 rfl) (j_r32 116 rfl)) lm_X12_128 ks_X12_w3 rfl (Nat.le_of_ble_eq_true rfl) (Nat.le_trans (m := 6) (Nat.le_of_ble_eq_true rfl) hd0) dX12_nameOf_112 (fun (v15 : Int) (S16 : jSt) (hv15 : R64 (v15)) => ?_)
            refine j_lcmp_ne (tgt := 121) hv14 hv15 dX12_nameOf_115 dX12_nameOf_116 rfl (fun _ => ?_) (fun _ => ?_)
            · refine j_aload_n 0 dX12_nameOf_121 rfl rfl ?_
              refine j_get (ci := 12) (k := 11) (t := 1) rfl in_X12 (Nat.le_of_ble_eq_true rfl) rfl rfl fl_X12_115 dX12_nameOf_122 (fun (v17 : Int) (hv17 : R64 (v17)) => ?_)
              refine j_bipush dX12_nameOf_125 (by decide) ?_
              refine j_bipush dX12_nameOf_127 (by decide) ?_
              refine j_bipush dX12_nameOf_129 (by decide) ?_
              refine j_bipush dX12_nameOf_131 (by decide) ?_
              refine j_callS (As := [(0, 119), (0, 97), (0, 110), (0, 116)]) (st := [(1, v17)]) kc_X12_w4 (c_X12_w4 119 97 110 116 S16 (j_r32 119 rfl) (j_r32 97 rfl) (j_r32 110 rfl) (j_r32 116 rfl)) lm_X12_132 ks_X12_w4 rfl (Nat.le_of_ble_eq_true rfl) (Nat.le_trans (m := 6) (Nat.le_of_ble_eq_true rfl) hd0) dX12_nameOf_133 (fun (v18 : Int) (S19 : jSt) (hv18 : R64 (v18)) => ?_)
              refine j_lcmp_ne (tgt := 142) hv17 hv18 dX12_nameOf_136 dX12_nameOf_137 rfl (fun _ => ?_) (fun _ => ?_)
              · refine j_aload_n 0 dX12_nameOf_142 rfl rfl ?_
                refine j_get (ci := 12) (k := 11) (t := 1) rfl in_X12 (Nat.le_of_ble_eq_true rfl) rfl rfl fl_X12_115 dX12_nameOf_143 (fun (v20 : Int) (hv20 : R64 (v20)) => ?_)
                refine j_bipush dX12_nameOf_146 (by decide) ?_
                refine j_bipush dX12_nameOf_148 (by decide) ?_
                refine j_bipush dX12_nameOf_150 (by decide) ?_
                refine j_bipush dX12_nameOf_152 (by decide) ?_
                refine j_bipush dX12_nameOf_154 (by decide) ?_
                refine j_callS (As := [(0, 112), (0, 117), (0, 114), (0, 115), (0, 101)]) (st := [(1, v20)]) kc_X12_w5 (c_X12_w5 112 117 114 115 101 S19 (j_r32 112 rfl) (j_r32 117 rfl) (j_r32 114 rfl) (j_r32 115 rfl) (j_r32 101 rfl)) lm_X12_136 ks_X12_w5 rfl (Nat.le_of_ble_eq_true rfl) (Nat.le_trans (m := 6) (Nat.le_of_ble_eq_true rfl) hd0) dX12_nameOf_156 (fun (v21 : Int) (S22 : jSt) (hv21 : R64 (v21)) => ?_)
                refine j_lcmp_ne (tgt := 166) hv20 hv21 dX12_nameOf_159 dX12_nameOf_160 rfl (fun _ => ?_) (fun _ => ?_)
                · refine j_aload_n 0 dX12_nameOf_166 rfl rfl ?_
                  refine j_get (ci := 12) (k := 11) (t := 1) rfl in_X12 (Nat.le_of_ble_eq_true rfl) rfl rfl fl_X12_115 dX12_nameOf_167 (fun (v23 : Int) (hv23 : R64 (v23)) => ?_)
                  refine j_bipush dX12_nameOf_170 (by decide) ?_
                  refine j_bipush dX12_nameOf_172 (by decide) ?_
                  refine j_bipush dX12_nameOf_174 (by decide) ?_
                  refine j_callS (As := [(0, 119), (0, 104), (0, 111)]) (st := [(1, v23)]) kc_X12_w3 (c_X12_w3 119 104 111 S22 (j_r32 119 rfl) (j_r32 104 rfl) (j_r32 111 rfl)) lm_X12_128 ks_X12_w3 rfl (Nat.le_of_ble_eq_true rfl) (Nat.le_trans (m := 6) (Nat.le_of_ble_eq_true rfl) hd0) dX12_nameOf_176 (fun (v24 : Int) (S25 : jSt) (hv24 : R64 (v24)) => ?_)
                  refine j_lcmp_ne (tgt := 188) hv23 hv24 dX12_nameOf_179 dX12_nameOf_180 rfl (fun _ => ?_) (fun _ => ?_)
                  · refine j_aload_n 0 dX12_nameOf_188 rfl rfl ?_
                    refine j_get (ci := 12) (k := 11) (t := 1) rfl in_X12 (Nat.le_of_ble_eq_true rfl) rfl rfl fl_X12_115 dX12_nameOf_189 (fun (v26 : Int) (hv26 : R64 (v26)) => ?_)
                    refine j_bipush dX12_nameOf_192 (by decide) ?_
                    refine j_bipush dX12_nameOf_194 (by decide) ?_
                    refine j_bipush dX12_nameOf_196 (by decide) ?_
                    refine j_callS (As := [(0, 104), (0, 97), (0, 115)]) (st := [(1, v26)]) kc_X12_w3 (c_X12_w3 104 97 115 S25 (j_r32 104 rfl) (j_r32 97 rfl) (j_r32 115 rfl)) lm_X12_128 ks_X12_w3 rfl (Nat.le_of_ble_eq_true rfl) (Nat.le_trans (m := 6) (Nat.le_of_ble_eq_true rfl) hd0) dX12_nameOf_198 (fun (v27 : Int) (S28 : jSt) (hv27 : R64 (v27)) => ?_)
                    refine j_lcmp_ne (tgt := 210) hv26 hv27 dX12_nameOf_201 dX12_nameOf_202 rfl (fun _ => ?_) (fun _ => ?_)
                    · refine j_iconst dX12_nameOf_210 ?_
                      refine j_sub [] rfl ?_
                      exact p_f_X12_nameOf_b211 hd0 (-1) S28 (j_r32 (-1) rfl)
                    · refine j_bipush dX12_nameOf_205 (by decide) ?_
                      refine j_goto (tgt := 211) dX12_nameOf_207 rfl ?_
                      refine j_sub [] rfl ?_
                      exact p_f_X12_nameOf_b211 hd0 8 S28 (j_r32 8 rfl)
                  · refine j_bipush dX12_nameOf_183 (by decide) ?_
                    refine j_goto (tgt := 211) dX12_nameOf_185 rfl ?_
                    refine j_sub [] rfl ?_
                    exact p_f_X12_nameOf_b211 hd0 7 S25 (j_r32 7 rfl)
                · refine j_bipush dX12_nameOf_163 (by decide) ?_
                  exact j_ireturn (j_r32 6 rfl) dX12_nameOf_165
              · refine j_iconst dX12_nameOf_140 ?_
                exact j_ireturn (j_r32 5 rfl) dX12_nameOf_141
            · refine j_iconst dX12_nameOf_119 ?_
              exact j_ireturn (j_r32 4 rfl) dX12_nameOf_120
          · refine j_iconst dX12_nameOf_100 ?_
            exact j_ireturn (j_r32 3 rfl) dX12_nameOf_101
        · refine j_iconst dX12_nameOf_75 ?_
          exact j_ireturn (j_r32 2 rfl) dX12_nameOf_76
      · refine j_iconst dX12_nameOf_52 ?_
        exact j_ireturn (jZ_R jz1) dX12_nameOf_53
    · refine j_iconst dX12_nameOf_29 ?_
      exact j_ireturn (jZ_R jz0) dX12_nameOf_30
  · refine j_iconst dX12_nameOf_8 ?_
    exact j_ireturn (j_r32 (-1) rfl) dX12_nameOf_9
theorem c_X12_nameOf {G : jG} (a0 : Int) (S : jSt) (h0 : 0 ≤ (a0)) : CT G yX12_nameOf cX12_nameOf 1 (some .int) 6 ([(2, a0)].map jval) S (f_X12_nameOf a0 S) := ct_of [(2, a0)] (by decide) rfl (Nat.le_of_ble_eq_true rfl) (e_X12_nameOf (Nat.le_refl _) a0 S h0)
-- X12_opened
def f_X12_opened (a0 : Int) (a1 : Int) (S : jSt) : Option (Int × jSt) :=
  fget S a0 12 17 (fun v1 => if v1 = 8 then some (3, S) else fget S a0 12 17 (fun v2 => fput S a0 12 17 (w32 (v2 + 1)) (fun S3 => fgetr S3 a0 12 15 (fun v4 => fget S3 a0 12 16 (fun v5 => fast S3 v4 v5 1 a1 (fun S6 => fget S6 a0 12 16 (fun v7 => fput S6 a0 12 16 (w32 (v7 + 1)) (fun S8 => fcallv S8 a0 12 (f_X12_nextToken a0 S8) (fun v9 S10 => some (0, S10))))))))))
theorem e_X12_opened {G : jG} {d : Nat} {S0 : jSt} (hd0 : 3 ≤ d) (a0 : Int) (a1 : Int) (S : jSt) (h0 : 0 ≤ (a0)) (h1 : R32 (a1)) : J G yX12_opened cX12_opened 2 (some .int) d S0 0 [(0, 2, a0), (1, 0, a1)] [] S (f_X12_opened a0 a1 S) := by
  unfold f_X12_opened
  refine j_aload_n 0 dX12_opened_0 rfl rfl ?_
  refine j_get (ci := 12) (k := 17) (t := 0) rfl in_X12 (Nat.le_of_ble_eq_true rfl) rfl rfl fl_X12_160 dX12_opened_1 (fun (v1 : Int) (hv1 : R32 (v1)) => ?_)
  refine j_bipush dX12_opened_4 (by decide) ?_
  refine j_icmp_ne (tgt := 11) hv1 (j_r32 8 rfl) dX12_opened_6 rfl (fun _ => ?_) (fun _ => ?_)
  · refine j_aload_n 0 dX12_opened_11 rfl rfl ?_
    refine j_dup dX12_opened_12 (fun h => nomatch h) ?_
    refine j_get (ci := 12) (k := 17) (t := 0) rfl in_X12 (Nat.le_of_ble_eq_true rfl) rfl rfl fl_X12_160 dX12_opened_13 (fun (v2 : Int) (hv2 : R32 (v2)) => ?_)
    refine j_iconst dX12_opened_16 ?_
    refine j_iadd dX12_opened_17 ?_
    refine j_puti (ci := 12) (k := 17) (ty0 := tyX12) rfl in_X12 (Nat.le_of_ble_eq_true rfl) rfl tyX12_ok nmX12 rfl rfl (by decide +kernel) (w32_R _) fl_X12_160 dX12_opened_18 (fun S3 => ?_)
    refine j_aload_n 0 dX12_opened_21 rfl rfl ?_
    refine j_getr (ci := 12) (k := 15) rfl in_X12 (Nat.le_of_ble_eq_true rfl) rfl rfl fl_X12_29 dX12_opened_22 (fun (v4 : Int) (hv4 : 0 ≤ v4) => ?_)
    refine j_aload_n 0 dX12_opened_25 rfl rfl ?_
    refine j_get (ci := 12) (k := 16) (t := 0) rfl in_X12 (Nat.le_of_ble_eq_true rfl) rfl rfl fl_X12_150 dX12_opened_26 (fun (v5 : Int) (hv5 : R32 (v5)) => ?_)
    refine j_iload_n 1 dX12_opened_29 rfl rfl ?_
    refine j_iastore hv5 h1 dX12_opened_30 (fun S6 => ?_)
    refine j_aload_n 0 dX12_opened_31 rfl rfl ?_
    refine j_dup dX12_opened_32 (fun h => nomatch h) ?_
    refine j_get (ci := 12) (k := 16) (t := 0) rfl in_X12 (Nat.le_of_ble_eq_true rfl) rfl rfl fl_X12_150 dX12_opened_33 (fun (v7 : Int) (hv7 : R32 (v7)) => ?_)
    refine j_iconst dX12_opened_36 ?_
    refine j_iadd dX12_opened_37 ?_
    refine j_puti (ci := 12) (k := 16) (ty0 := tyX12) rfl in_X12 (Nat.le_of_ble_eq_true rfl) rfl tyX12_ok nmX12 rfl rfl (by decide +kernel) (w32_R _) fl_X12_150 dX12_opened_38 (fun S8 => ?_)
    refine j_aload_n 0 dX12_opened_41 rfl rfl ?_
    refine j_callV (ci := 12) (As := []) (st := []) kc_X12_nextToken (c_X12_nextToken a0 S8 h0) rfl lm_X12_170 ki_X12_nextToken ke_X12_nextToken rfl (Nat.le_of_ble_eq_true rfl) (Nat.le_trans (m := 3) (Nat.le_of_ble_eq_true rfl) hd0) dX12_opened_42 (fun v9 S10 _ => ?_)
    refine j_iconst dX12_opened_45 ?_
    exact j_ireturn (jZ_R jz0) dX12_opened_46
  · refine j_iconst dX12_opened_9 ?_
    exact j_ireturn (j_r32 3 rfl) dX12_opened_10
theorem c_X12_opened {G : jG} (a0 : Int) (a1 : Int) (S : jSt) (h0 : 0 ≤ (a0)) (h1 : R32 (a1)) : CT G yX12_opened cX12_opened 2 (some .int) 3 ([(2, a0), (0, a1)].map jval) S (f_X12_opened a0 a1 S) := ct_of [(2, a0), (0, a1)] (by decide) rfl (Nat.le_of_ble_eq_true rfl) (e_X12_opened (Nat.le_refl _) a0 a1 S h0 h1)
