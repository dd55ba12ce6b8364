-- X11_richest
def f_X11_richest_b42 (r6 : Int → Int → Int → Int → jSt → Option (Int × jSt)) (x0 : Int) (x1 : Int) (x2 : Int) (x3 : Int) (S : jSt) : Option (Int × jSt) :=
  flet (w32 (x3 + 1)) (fun v6 => r6 x0 x1 x2 v6 S)
theorem p_f_X11_richest_b42 {G : jG} {d : Nat} {S0 : jSt} (hd0 : 1 ≤ d) {r6 : Int → Int → Int → Int → jSt → Option (Int × jSt)} (k6 : ∀ (x0 : Int) (x1 : Int) (x2 : Int) (x3 : Int) (S : jSt), (0 ≤ (x0)) → (R32 (x1)) → (R32 (x2)) → (R32 (x3)) → J G yX11_richest cX11_richest 4 (some .int) d S0 6 [(0, 2, x0), (1, 0, x1), (2, 0, x2), (3, 0, x3)] [] S (r6 x0 x1 x2 x3 S)) : ∀ (x0 : Int) (x1 : Int) (x2 : Int) (x3 : Int) (S : jSt), (0 ≤ (x0)) → (R32 (x1)) → (R32 (x2)) → (R32 (x3)) → J G yX11_richest cX11_richest 4 (some .int) d S0 42 [(0, 2, x0), (1, 0, x1), (2, 0, x2), (3, 0, x3)] [] S (f_X11_richest_b42 r6 x0 x1 x2 x3 S) := by
  intro x0 x1 x2 x3 S h0 h1 h2 h3
  unfold f_X11_richest_b42
  refine j_iincL (q := 3) dX11_richest_42 rfl (Nat.le_of_ble_eq_true rfl) (fun v6 hv6 => ?_)
  refine j_lv (lv' := [(3, 0, v6), (0, 2, x0), (1, 0, x1), (2, 0, x2)]) rfl ?_
  refine j_goto (tgt := 6) dX11_richest_45 rfl ?_
  refine j_sub [1, 2, 3, 0] rfl ?_
  exact k6 x0 x1 x2 v6 S h0 h1 h2 hv6
def f_X11_richest_b6B (r6 : Int → Int → Int → Int → jSt → Option (Int × jSt)) (x0 : Int) (x1 : Int) (x2 : Int) (x3 : Int) (S : jSt) : Option (Int × jSt) :=
  fgetr S x0 11 0 (fun v1 => fget S v1 10 1 (fun v2 => if v2 ≤ x3 then some (x1, S) else fgetr S x0 11 1 (fun v3 => fgetr S v3 1 2 (fun v4 => fald S v4 x3 1 (fun v5 => if v5 ≤ x2 then f_X11_richest_b42 r6 x0 x1 x2 x3 S else fgetr S x0 11 1 (fun v7 => fgetr S v7 1 2 (fun v8 => fald S v8 x3 1 (fun v9 => f_X11_richest_b42 r6 x0 x3 v9 x3 S))))))))
theorem p_f_X11_richest_b6B {G : jG} {d : Nat} {S0 : jSt} (hd0 : 1 ≤ d) {r6 : Int → Int → Int → Int → jSt → Option (Int × jSt)} (k6 : ∀ (x0 : Int) (x1 : Int) (x2 : Int) (x3 : Int) (S : jSt), (0 ≤ (x0)) → (R32 (x1)) → (R32 (x2)) → (R32 (x3)) → J G yX11_richest cX11_richest 4 (some .int) d S0 6 [(0, 2, x0), (1, 0, x1), (2, 0, x2), (3, 0, x3)] [] S (r6 x0 x1 x2 x3 S)) : ∀ (x0 : Int) (x1 : Int) (x2 : Int) (x3 : Int) (S : jSt), (0 ≤ (x0)) → (R32 (x1)) → (R32 (x2)) → (R32 (x3)) → J G yX11_richest cX11_richest 4 (some .int) d S0 6 [(0, 2, x0), (1, 0, x1), (2, 0, x2), (3, 0, x3)] [] S (f_X11_richest_b6B r6 x0 x1 x2 x3 S) := by
  intro x0 x1 x2 x3 S h0 h1 h2 h3
  unfold f_X11_richest_b6B
  refine j_iload_n 3 dX11_richest_6 rfl rfl ?_
  refine j_aload_n 0 dX11_richest_7 rfl rfl ?_
  refine j_getr (ci := 11) (k := 0) rfl in_X11 (Nat.le_of_ble_eq_true rfl) rfl rfl fl_X11_10 dX11_richest_8 (fun (v1 : Int) (hv1 : 0 ≤ v1) => ?_)
  refine j_get (ci := 10) (k := 1) (t := 0) rfl in_X10 (Nat.le_of_ble_eq_true rfl) rfl rfl fl_X11_98 dX11_richest_11 (fun (v2 : Int) (hv2 : R32 (v2)) => ?_)
  refine j_icmp_ge (tgt := 48) h3 hv2 dX11_richest_14 rfl (fun _ => ?_) (fun _ => ?_)
  · refine j_iload_n 1 dX11_richest_48 rfl rfl ?_
    exact j_ireturn h1 dX11_richest_49
  · refine j_aload_n 0 dX11_richest_17 rfl rfl ?_
    refine j_getr (ci := 11) (k := 1) rfl in_X11 (Nat.le_of_ble_eq_true rfl) rfl rfl fl_X11_19 dX11_richest_18 (fun (v3 : Int) (hv3 : 0 ≤ v3) => ?_)
    refine j_getr (ci := 1) (k := 2) rfl in_X1 (Nat.le_of_ble_eq_true rfl) rfl rfl fl_X11_101 dX11_richest_21 (fun (v4 : Int) (hv4 : 0 ≤ v4) => ?_)
    refine j_iload_n 3 dX11_richest_24 rfl rfl ?_
    refine j_iaload h3 dX11_richest_25 (fun (v5 : Int) (hv5 : R32 (v5)) => ?_)
    refine j_iload_n 2 dX11_richest_26 rfl rfl ?_
    refine j_icmp_le (tgt := 42) hv5 h2 dX11_richest_27 rfl (fun _ => ?_) (fun _ => ?_)
    · exact p_f_X11_richest_b42 hd0 k6 x0 x1 x2 x3 S h0 h1 h2 h3
    · refine j_aload_n 0 dX11_richest_30 rfl rfl ?_
      refine j_getr (ci := 11) (k := 1) rfl in_X11 (Nat.le_of_ble_eq_true rfl) rfl rfl fl_X11_19 dX11_richest_31 (fun (v7 : Int) (hv7 : 0 ≤ v7) => ?_)
      refine j_getr (ci := 1) (k := 2) rfl in_X1 (Nat.le_of_ble_eq_true rfl) rfl rfl fl_X11_101 dX11_richest_34 (fun (v8 : Int) (hv8 : 0 ≤ v8) => ?_)
      refine j_iload_n 3 dX11_richest_37 rfl rfl ?_
      refine j_iaload h3 dX11_richest_38 (fun (v9 : Int) (hv9 : R32 (v9)) => ?_)
      refine j_istore_n (lv' := [(2, 0, v9), (0, 2, x0), (1, 0, x1), (3, 0, x3)]) dX11_richest_39 rfl (Nat.le_of_ble_eq_true rfl) rfl ?_
      refine j_iload_n 3 dX11_richest_40 rfl rfl ?_
      refine j_istore_n (lv' := [(1, 0, x3), (2, 0, v9), (0, 2, x0), (3, 0, x3)]) dX11_richest_41 rfl (Nat.le_of_ble_eq_true rfl) rfl ?_
      refine j_sub [2, 0, 1, 3] rfl ?_
      exact p_f_X11_richest_b42 hd0 k6 x0 x3 v9 x3 S h0 h3 hv9 h3
def f_X11_richest_b6 : Int → Int → Int → Int → jSt → Option (Int × jSt) := jrep (β := Int → Int → Int → Int → jSt → Option (Int × jSt)) (fun _ _ _ _ _ => none) (fun r => f_X11_richest_b6B r) jN
theorem p_f_X11_richest_b6 {G : jG} {d : Nat} {S0 : jSt} (hd0 : 1 ≤ d) : ∀ (x0 : Int) (x1 : Int) (x2 : Int) (x3 : Int) (S : jSt), (0 ≤ (x0)) → (R32 (x1)) → (R32 (x2)) → (R32 (x3)) → J G yX11_richest cX11_richest 4 (some .int) d S0 6 [(0, 2, x0), (1, 0, x1), (2, 0, x2), (3, 0, x3)] [] S (f_X11_richest_b6  x0 x1 x2 x3 S) :=
  jrep_ind (P := fun (r : Int → Int → Int → Int → jSt → Option (Int × jSt)) => ∀ (x0 : Int) (x1 : Int) (x2 : Int) (x3 : Int) (S : jSt), (0 ≤ (x0)) → (R32 (x1)) → (R32 (x2)) → (R32 (x3)) → J G yX11_richest cX11_richest 4 (some .int) d S0 6 [(0, 2, x0), (1, 0, x1), (2, 0, x2), (3, 0, x3)] [] S (r x0 x1 x2 x3 S)) (by intros; exact j_none) (fun r k => p_f_X11_richest_b6B hd0 k) jN
def f_X11_richest (a0 : Int) (S : jSt) : Option (Int × jSt) :=
  f_X11_richest_b6 a0 (-1) (-1) 0 S
theorem e_X11_richest {G : jG} {d : Nat} {S0 : jSt} (hd0 : 1 ≤ d) (a0 : Int) (S : jSt) (h0 : 0 ≤ (a0)) : J G yX11_richest cX11_richest 4 (some .int) d S0 0 [(0, 2, a0)] [] S (f_X11_richest a0 S) := by
  unfold f_X11_richest
  refine j_iconst dX11_richest_0 ?_
  refine j_istore_n (lv' := [(1, 0, (-1)), (0, 2, a0)]) dX11_richest_1 rfl (Nat.le_of_ble_eq_true rfl) rfl ?_
  refine j_iconst dX11_richest_2 ?_
  refine j_istore_n (lv' := [(2, 0, (-1)), (1, 0, (-1)), (0, 2, a0)]) dX11_richest_3 rfl (Nat.le_of_ble_eq_true rfl) rfl ?_
  refine j_iconst dX11_richest_4 ?_
  refine j_istore_n (lv' := [(3, 0, 0), (2, 0, (-1)), (1, 0, (-1)), (0, 2, a0)]) dX11_richest_5 rfl (Nat.le_of_ble_eq_true rfl) rfl ?_
  refine j_sub [3, 2, 1, 0] rfl ?_
  exact p_f_X11_richest_b6 hd0 a0 (-1) (-1) 0 S h0 (j_r32 (-1) rfl) (j_r32 (-1) rfl) (jZ_R jz0)
theorem c_X11_richest {G : jG} (a0 : Int) (S : jSt) (h0 : 0 ≤ (a0)) : CT G yX11_richest cX11_richest 4 (some .int) 1 ([(2, a0)].map jval) S (f_X11_richest a0 S) := ct_of [(2, a0)] (by decide) rfl (Nat.le_of_ble_eq_true rfl) (e_X11_richest (Nat.le_refl _) a0 S h0)
-- X11_said
def f_X11_said_b48 (S : jSt) : Option (Int × jSt) :=
  some ((-2), S)
theorem p_f_X11_said_b48 {G : jG} {d : Nat} {S0 : jSt} (hd0 : 3 ≤ d) : ∀ (S : jSt), J G yX11_said cX11_said 3 (some .int) d S0 48 [] [] S (f_X11_said_b48   S) := by
  intro S
  unfold f_X11_said_b48
  refine j_bipush dX11_said_48 (by decide) ?_
  exact j_ireturn (j_r32 (-2) rfl) dX11_said_50
def f_X11_said (a0 : Int) (a1 : Int) (a2 : Int) (S : jSt) : Option (Int × jSt) :=
  if a1 = (-1) then fgetr S a0 11 0 (fun v23 => fput S v23 10 11 0 (fun S24 => some (0, S24))) else fgetr S a0 11 0 (fun v1 => fcallv S v1 10 (f_X10_hasLot v1 a1 S) (fun v2 S3 => if v2 = 0 then f_X11_said_b48 S3 else fcall (f_X11_within a2 0 10 S3) (fun v4 S5 => if v4 = 0 then f_X11_said_b48 S5 else fgetr S5 a0 11 0 (fun v6 => fget S5 v6 10 11 (fun v7 => if v7 < 8 then fgetr S5 a0 11 0 (fun v8 => fgetr S5 v8 10 12 (fun v9 => fgetr S5 a0 11 0 (fun v10 => fget S5 v10 10 11 (fun v11 => fast S5 v9 v11 1 a1 (fun S12 => fgetr S12 a0 11 0 (fun v13 => fgetr S12 v13 10 13 (fun v14 => fgetr S12 a0 11 0 (fun v15 => fget S12 v15 10 11 (fun v16 => fast S12 v14 v16 1 a2 (fun S17 => fgetr S17 a0 11 0 (fun v18 => fget S17 v18 10 11 (fun v19 => fput S17 v18 10 11 (w32 (v19 + 1)) (fun S20 => fgetr S20 a0 11 0 (fun v21 => fget S20 v21 10 11 (fun v22 => some (v22, S20)))))))))))))))) else f_X11_said_b48 S5)))))
theorem e_X11_said {G : jG} {d : Nat} {S0 : jSt} (hd0 : 3 ≤ d) (a0 : Int) (a1 : Int) (a2 : Int) (S : jSt) (h0 : 0 ≤ (a0)) (h1 : R32 (a1)) (h2 : R32 (a2)) : J G yX11_said cX11_said 3 (some .int) d S0 0 [(0, 2, a0), (1, 0, a1), (2, 0, a2)] [] S (f_X11_said a0 a1 a2 S) := by
  unfold f_X11_said
  refine j_iload_n 1 dX11_said_0 rfl rfl ?_
  refine j_iconst dX11_said_1 ?_
  refine j_icmp_ne (tgt := 15) h1 (j_r32 (-1) rfl) dX11_said_2 rfl (fun _ => ?_) (fun _ => ?_)
  · refine j_aload_n 0 dX11_said_15 rfl rfl ?_
    refine j_getr (ci := 11) (k := 0) rfl in_X11 (Nat.le_of_ble_eq_true rfl) rfl rfl fl_X11_10 dX11_said_16 (fun (v1 : Int) (hv1 : 0 ≤ v1) => ?_)
    refine j_iload_n 1 dX11_said_19 rfl rfl ?_
    refine j_callV (ci := 10) (As := [(0, a1)]) (st := []) kc_X10_hasLot (c_X10_hasLot v1 a1 S hv1 h1) rfl lm_X11_111 ki_X10_hasLot ke_X10_hasLot rfl (Nat.le_of_ble_eq_true rfl) (Nat.le_trans (m := 3) (Nat.le_of_ble_eq_true rfl) hd0) dX11_said_20 (fun (v2 : Int) (S3 : jSt) (hv2 : (v2) = 0 ∨ (v2) = 1) => ?_)
    refine j_if_eq (tgt := 48) (jZ_R hv2) dX11_said_23 rfl (fun _ => ?_) (fun _ => ?_)
    · refine j_sub [] rfl ?_
      exact p_f_X11_said_b48 hd0 S3
    · refine j_iload_n 2 dX11_said_26 rfl rfl ?_
      refine j_iconst dX11_said_27 ?_
      refine j_bipush dX11_said_28 (by decide) ?_
      refine j_callS (As := [(0, a2), (0, 0), (0, 10)]) (st := []) kc_X11_within (c_X11_within a2 0 10 S3 h2 (jZ_R jz0) (j_r32 10 rfl)) lm_X11_76 ks_X11_within rfl (Nat.le_of_ble_eq_true rfl) (Nat.le_trans (m := 3) (Nat.le_of_ble_eq_true rfl) hd0) dX11_said_30 (fun (v4 : Int) (S5 : jSt) (hv4 : (v4) = 0 ∨ (v4) = 1) => ?_)
      refine j_if_eq (tgt := 48) (jZ_R hv4) dX11_said_33 rfl (fun _ => ?_) (fun _ => ?_)
      · refine j_sub [] rfl ?_
        exact p_f_X11_said_b48 hd0 S5
      · refine j_aload_n 0 dX11_said_36 rfl rfl ?_
        refine j_getr (ci := 11) (k := 0) rfl in_X11 (Nat.le_of_ble_eq_true rfl) rfl rfl fl_X11_10 dX11_said_37 (fun (v6 : Int) (hv6 : 0 ≤ v6) => ?_)
        refine j_get (ci := 10) (k := 11) (t := 0) rfl in_X10 (Nat.le_of_ble_eq_true rfl) rfl rfl fl_X11_404 dX11_said_40 (fun (v7 : Int) (hv7 : R32 (v7)) => ?_)
        refine j_bipush dX11_said_43 (by decide) ?_
        refine j_icmp_lt (tgt := 51) hv7 (j_r32 8 rfl) dX11_said_45 rfl (fun _ => ?_) (fun _ => ?_)
        · refine j_aload_n 0 dX11_said_51 rfl rfl ?_
          refine j_getr (ci := 11) (k := 0) rfl in_X11 (Nat.le_of_ble_eq_true rfl) rfl rfl fl_X11_10 dX11_said_52 (fun (v8 : Int) (hv8 : 0 ≤ v8) => ?_)
          refine j_getr (ci := 10) (k := 12) rfl in_X10 (Nat.le_of_ble_eq_true rfl) rfl rfl fl_X11_407 dX11_said_55 (fun (v9 : Int) (hv9 : 0 ≤ v9) => ?_)
          refine j_aload_n 0 dX11_said_58 rfl rfl ?_
          refine j_getr (ci := 11) (k := 0) rfl in_X11 (Nat.le_of_ble_eq_true rfl) rfl rfl fl_X11_10 dX11_said_59 (fun (v10 : Int) (hv10 : 0 ≤ v10) => ?_)
          refine j_get (ci := 10) (k := 11) (t := 0) rfl in_X10 (Nat.le_of_ble_eq_true rfl) rfl rfl fl_X11_404 dX11_said_62 (fun (v11 : Int) (hv11 : R32 (v11)) => ?_)
          refine j_iload_n 1 dX11_said_65 rfl rfl ?_
          refine j_iastore hv11 h1 dX11_said_66 (fun S12 => ?_)
          refine j_aload_n 0 dX11_said_67 rfl rfl ?_
          refine j_getr (ci := 11) (k := 0) rfl in_X11 (Nat.le_of_ble_eq_true rfl) rfl rfl fl_X11_10 dX11_said_68 (fun (v13 : Int) (hv13 : 0 ≤ v13) => ?_)
          refine j_getr (ci := 10) (k := 13) rfl in_X10 (Nat.le_of_ble_eq_true rfl) rfl rfl fl_X11_410 dX11_said_71 (fun (v14 : Int) (hv14 : 0 ≤ v14) => ?_)
          refine j_aload_n 0 dX11_said_74 rfl rfl ?_
          refine j_getr (ci := 11) (k := 0) rfl in_X11 (Nat.le_of_ble_eq_true rfl) rfl rfl fl_X11_10 dX11_said_75 (fun (v15 : Int) (hv15 : 0 ≤ v15) => ?_)
          refine j_get (ci := 10) (k := 11) (t := 0) rfl in_X10 (Nat.le_of_ble_eq_true rfl) rfl rfl fl_X11_404 dX11_said_78 (fun (v16 : Int) (hv16 : R32 (v16)) => ?_)
          refine j_iload_n 2 dX11_said_81 rfl rfl ?_
          refine j_iastore hv16 h2 dX11_said_82 (fun S17 => ?_)
          refine j_aload_n 0 dX11_said_83 rfl rfl ?_
          refine j_getr (ci := 11) (k := 0) rfl in_X11 (Nat.le_of_ble_eq_true rfl) rfl rfl fl_X11_10 dX11_said_84 (fun (v18 : Int) (hv18 : 0 ≤ v18) => ?_)
          refine j_dup dX11_said_87 (fun h => nomatch h) ?_
          refine j_get (ci := 10) (k := 11) (t := 0) rfl in_X10 (Nat.le_of_ble_eq_true rfl) rfl rfl fl_X11_404 dX11_said_88 (fun (v19 : Int) (hv19 : R32 (v19)) => ?_)
          refine j_iconst dX11_said_91 ?_
          refine j_iadd dX11_said_92 ?_
          refine j_puti (ci := 10) (k := 11) (ty0 := tyX10) rfl in_X10 (Nat.le_of_ble_eq_true rfl) rfl tyX10_ok nmX10 rfl rfl (by decide +kernel) (w32_R _) fl_X11_404 dX11_said_93 (fun S20 => ?_)
          refine j_aload_n 0 dX11_said_96 rfl rfl ?_
          refine j_getr (ci := 11) (k := 0) rfl in_X11 (Nat.le_of_ble_eq_true rfl) rfl rfl fl_X11_10 dX11_said_97 (fun (v21 : Int) (hv21 : 0 ≤ v21) => ?_)
          refine j_get (ci := 10) (k := 11) (t := 0) rfl in_X10 (Nat.le_of_ble_eq_true rfl) rfl rfl fl_X11_404 dX11_said_100 (fun (v22 : Int) (hv22 : R32 (v22)) => ?_)
          exact j_ireturn hv22 dX11_said_103
        · refine j_sub [] rfl ?_
          exact p_f_X11_said_b48 hd0 S5
  · refine j_aload_n 0 dX11_said_5 rfl rfl ?_
    refine j_getr (ci := 11) (k := 0) rfl in_X11 (Nat.le_of_ble_eq_true rfl) rfl rfl fl_X11_10 dX11_said_6 (fun (v23 : Int) (hv23 : 0 ≤ v23) => ?_)
    refine j_iconst dX11_said_9 ?_
    refine j_puti (ci := 10) (k := 11) (ty0 := tyX10) rfl in_X10 (Nat.le_of_ble_eq_true rfl) rfl tyX10_ok nmX10 rfl rfl (by decide +kernel) (jZ_R jz0) fl_X11_404 dX11_said_10 (fun S24 => ?_)
    refine j_iconst dX11_said_13 ?_
    exact j_ireturn (jZ_R jz0) dX11_said_14
theorem c_X11_said {G : jG} (a0 : Int) (a1 : Int) (a2 : Int) (S : jSt) (h0 : 0 ≤ (a0)) (h1 : R32 (a1)) (h2 : R32 (a2)) : CT G yX11_said cX11_said 3 (some .int) 3 ([(2, a0), (0, a1), (0, a2)].map jval) S (f_X11_said a0 a1 a2 S) := ct_of [(2, a0), (0, a1), (0, a2)] (by decide) rfl (Nat.le_of_ble_eq_true rfl) (e_X11_said (Nat.le_refl _) a0 a1 a2 S h0 h1 h2)
-- X11_saysAll
def f_X11_saysAll_b2B (r2 : Int → Int → Int → jSt → Option (Int × jSt)) (x0 : Int) (x1 : Int) (x2 : Int) (S : jSt) : Option (Int × jSt) :=
  fgetr S x0 11 0 (fun v1 => fget S v1 10 11 (fun v2 => if v2 ≤ x2 then some (1, S) else fgetr S x0 11 8 (fun v3 => fgetr S x0 11 1 (fun v4 => fgetr S x0 11 0 (fun v5 => fgetr S v5 10 12 (fun v6 => fald S v6 x2 1 (fun v7 => fcallv S v3 5 (f_X5_warmsBy v3 x1 v4 v7 S) (fun v8 S9 => fgetr S9 x0 11 0 (fun v10 => fgetr S9 v10 10 13 (fun v11 => fald S9 v11 x2 1 (fun v12 => if v8 = v12 then flet (w32 (x2 + 1)) (fun v13 => r2 x0 x1 v13 S9) else some (0, S9))))))))))))
theorem p_f_X11_saysAll_b2B {G : jG} {d : Nat} {S0 : jSt} (hd0 : 4 ≤ d) {r2 : Int → Int → Int → jSt → Option (Int × jSt)} (k2 : ∀ (x0 : Int) (x1 : Int) (x2 : Int) (S : jSt), (0 ≤ (x0)) → (R32 (x2)) → J G yX11_saysAll cX11_saysAll 3 (some .boolean) d S0 2 [(0, 2, x0), (1, 3, x1), (2, 0, x2)] [] S (r2 x0 x1 x2 S)) : ∀ (x0 : Int) (x1 : Int) (x2 : Int) (S : jSt), (0 ≤ (x0)) → (R32 (x2)) → J G yX11_saysAll cX11_saysAll 3 (some .boolean) d S0 2 [(0, 2, x0), (1, 3, x1), (2, 0, x2)] [] S (f_X11_saysAll_b2B r2 x0 x1 x2 S) := by
  intro x0 x1 x2 S h0 h2
  unfold f_X11_saysAll_b2B
  refine j_iload_n 2 dX11_saysAll_2 rfl rfl ?_
  refine j_aload_n 0 dX11_saysAll_3 rfl rfl ?_
  refine j_getr (ci := 11) (k := 0) rfl in_X11 (Nat.le_of_ble_eq_true rfl) rfl rfl fl_X11_10 dX11_saysAll_4 (fun (v1 : Int) (hv1 : 0 ≤ v1) => ?_)
  refine j_get (ci := 10) (k := 11) (t := 0) rfl in_X10 (Nat.le_of_ble_eq_true rfl) rfl rfl fl_X11_404 dX11_saysAll_7 (fun (v2 : Int) (hv2 : R32 (v2)) => ?_)
  refine j_icmp_ge (tgt := 54) h2 hv2 dX11_saysAll_10 rfl (fun _ => ?_) (fun _ => ?_)
  · refine j_iconst dX11_saysAll_54 ?_
    exact j_zreturn jz1 dX11_saysAll_55
  · refine j_aload_n 0 dX11_saysAll_13 rfl rfl ?_
    refine j_getr (ci := 11) (k := 8) rfl in_X11 (Nat.le_of_ble_eq_true rfl) rfl rfl fl_X11_60 dX11_saysAll_14 (fun (v3 : Int) (hv3 : 0 ≤ v3) => ?_)
    refine j_aload_nq 1 dX11_saysAll_17 rfl rfl ?_
    refine j_aload_n 0 dX11_saysAll_18 rfl rfl ?_
    refine j_getr (ci := 11) (k := 1) rfl in_X11 (Nat.le_of_ble_eq_true rfl) rfl rfl fl_X11_19 dX11_saysAll_19 (fun (v4 : Int) (hv4 : 0 ≤ v4) => ?_)
    refine j_aload_n 0 dX11_saysAll_22 rfl rfl ?_
    refine j_getr (ci := 11) (k := 0) rfl in_X11 (Nat.le_of_ble_eq_true rfl) rfl rfl fl_X11_10 dX11_saysAll_23 (fun (v5 : Int) (hv5 : 0 ≤ v5) => ?_)
    refine j_getr (ci := 10) (k := 12) rfl in_X10 (Nat.le_of_ble_eq_true rfl) rfl rfl fl_X11_407 dX11_saysAll_26 (fun (v6 : Int) (hv6 : 0 ≤ v6) => ?_)
    refine j_iload_n 2 dX11_saysAll_29 rfl rfl ?_
    refine j_iaload h2 dX11_saysAll_30 (fun (v7 : Int) (hv7 : R32 (v7)) => ?_)
    refine j_callV (ci := 5) (As := [(3, x1), (2, v4), (0, v7)]) (st := []) kc_X5_warmsBy (c_X5_warmsBy v3 x1 v4 v7 S hv3 hv4 hv7) rfl lm_X11_267 ki_X5_warmsBy ke_X5_warmsBy rfl (Nat.le_of_ble_eq_true rfl) (Nat.le_trans (m := 4) (Nat.le_of_ble_eq_true rfl) hd0) dX11_saysAll_31 (fun (v8 : Int) (S9 : jSt) (hv8 : R32 (v8)) => ?_)
    refine j_aload_n 0 dX11_saysAll_34 rfl rfl ?_
    refine j_getr (ci := 11) (k := 0) rfl in_X11 (Nat.le_of_ble_eq_true rfl) rfl rfl fl_X11_10 dX11_saysAll_35 (fun (v10 : Int) (hv10 : 0 ≤ v10) => ?_)
    refine j_getr (ci := 10) (k := 13) rfl in_X10 (Nat.le_of_ble_eq_true rfl) rfl rfl fl_X11_410 dX11_saysAll_38 (fun (v11 : Int) (hv11 : 0 ≤ v11) => ?_)
    refine j_iload_n 2 dX11_saysAll_41 rfl rfl ?_
    refine j_iaload h2 dX11_saysAll_42 (fun (v12 : Int) (hv12 : R32 (v12)) => ?_)
    refine j_icmp_eq (tgt := 48) hv8 hv12 dX11_saysAll_43 rfl (fun _ => ?_) (fun _ => ?_)
    · refine j_iincL (q := 2) dX11_saysAll_48 rfl (Nat.le_of_ble_eq_true rfl) (fun v13 hv13 => ?_)
      refine j_lv (lv' := [(2, 0, v13), (0, 2, x0), (1, 3, x1)]) rfl ?_
      refine j_goto (tgt := 2) dX11_saysAll_51 rfl ?_
      refine j_sub [1, 2, 0] rfl ?_
      exact k2 x0 x1 v13 S9 h0 hv13
    · refine j_iconst dX11_saysAll_46 ?_
      exact j_zreturn jz0 dX11_saysAll_47
def f_X11_saysAll_b2 : Int → Int → Int → jSt → Option (Int × jSt) := jrep (β := Int → Int → Int → jSt → Option (Int × jSt)) (fun _ _ _ _ => none) (fun r => f_X11_saysAll_b2B r) jN
theorem p_f_X11_saysAll_b2 {G : jG} {d : Nat} {S0 : jSt} (hd0 : 4 ≤ d) : ∀ (x0 : Int) (x1 : Int) (x2 : Int) (S : jSt), (0 ≤ (x0)) → (R32 (x2)) → J G yX11_saysAll cX11_saysAll 3 (some .boolean) d S0 2 [(0, 2, x0), (1, 3, x1), (2, 0, x2)] [] S (f_X11_saysAll_b2  x0 x1 x2 S) :=
  jrep_ind (P := fun (r : Int → Int → Int → jSt → Option (Int × jSt)) => ∀ (x0 : Int) (x1 : Int) (x2 : Int) (S : jSt), (0 ≤ (x0)) → (R32 (x2)) → J G yX11_saysAll cX11_saysAll 3 (some .boolean) d S0 2 [(0, 2, x0), (1, 3, x1), (2, 0, x2)] [] S (r x0 x1 x2 S)) (by intros; exact j_none) (fun r k => p_f_X11_saysAll_b2B hd0 k) jN
def f_X11_saysAll (a0 : Int) (a1 : Int) (S : jSt) : Option (Int × jSt) :=
  f_X11_saysAll_b2 a0 a1 0 S
theorem e_X11_saysAll {G : jG} {d : Nat} {S0 : jSt} (hd0 : 4 ≤ d) (a0 : Int) (a1 : Int) (S : jSt) (h0 : 0 ≤ (a0)) : J G yX11_saysAll cX11_saysAll 3 (some .boolean) d S0 0 [(0, 2, a0), (1, 3, a1)] [] S (f_X11_saysAll a0 a1 S) := by
  unfold f_X11_saysAll
  refine j_iconst dX11_saysAll_0 ?_
  refine j_istore_n (lv' := [(2, 0, 0), (0, 2, a0), (1, 3, a1)]) dX11_saysAll_1 rfl (Nat.le_of_ble_eq_true rfl) rfl ?_
  refine j_sub [1, 2, 0] rfl ?_
  exact p_f_X11_saysAll_b2 hd0 a0 a1 0 S h0 (jZ_R jz0)
theorem c_X11_saysAll {G : jG} (a0 : Int) (a1 : Int) (S : jSt) (h0 : 0 ≤ (a0)) : CT G yX11_saysAll cX11_saysAll 3 (some .boolean) 4 ([(2, a0), (3, a1)].map jval) S (f_X11_saysAll a0 a1 S) := ct_of [(2, a0), (3, a1)] (by decide) rfl (Nat.le_of_ble_eq_true rfl) (e_X11_saysAll (Nat.le_refl _) a0 a1 S h0)
-- X11_stair
def f_X11_stair_b23 (S : jSt) : Option (Int × jSt) :=
  some (0, S)
theorem p_f_X11_stair_b23 {G : jG} {d : Nat} {S0 : jSt} (hd0 : 3 ≤ d) : ∀ (S : jSt), J G yX11_stair cX11_stair 3 (some .boolean) d S0 23 [] [] S (f_X11_stair_b23   S) := by
  intro S
  unfold f_X11_stair_b23
  refine j_iconst dX11_stair_23 ?_
  exact j_zreturn jz0 dX11_stair_24
def f_X11_stair (a0 : Int) (a1 : Int) (a2 : Int) (S : jSt) : Option (Int × jSt) :=
  fcall (f_X11_unlikeFloors a1 a2 S) (fun v1 S2 => if v1 = 0 then f_X11_stair_b23 S2 else fgetr S2 a0 11 0 (fun v3 => fgetr S2 v3 10 14 (fun v4 => fcallv S2 v4 7 (f_X7_joins v4 a1 a2 S2) (fun v5 S6 => if v5 = 0 then fgetr S6 a0 11 0 (fun v7 => fgetr S6 v7 10 14 (fun v8 => fcallv S6 v8 7 (f_X7_turn v8 a1 a2 S6) (fun v9 S10 => some (1, S10)))) else f_X11_stair_b23 S6))))
theorem e_X11_stair {G : jG} {d : Nat} {S0 : jSt} (hd0 : 3 ≤ d) (a0 : Int) (a1 : Int) (a2 : Int) (S : jSt) (h0 : 0 ≤ (a0)) (h1 : R32 (a1)) (h2 : R32 (a2)) : J G yX11_stair cX11_stair 3 (some .boolean) d S0 0 [(0, 2, a0), (1, 0, a1), (2, 0, a2)] [] S (f_X11_stair a0 a1 a2 S) := by
  unfold f_X11_stair
  refine j_iload_n 1 dX11_stair_0 rfl rfl ?_
  refine j_iload_n 2 dX11_stair_1 rfl rfl ?_
  refine j_callS (As := [(0, a1), (0, a2)]) (st := []) kc_X11_unlikeFloors (c_X11_unlikeFloors a1 a2 S h1 h2) lm_X11_335 ks_X11_unlikeFloors rfl (Nat.le_of_ble_eq_true rfl) (Nat.le_trans (m := 3) (Nat.le_of_ble_eq_true rfl) hd0) dX11_stair_2 (fun (v1 : Int) (S2 : jSt) (hv1 : (v1) = 0 ∨ (v1) = 1) => ?_)
  refine j_if_eq (tgt := 23) (jZ_R hv1) dX11_stair_5 rfl (fun _ => ?_) (fun _ => ?_)
  · refine j_sub [] rfl ?_
    exact p_f_X11_stair_b23 hd0 S2
  · refine j_aload_n 0 dX11_stair_8 rfl rfl ?_
    refine j_getr (ci := 11) (k := 0) rfl in_X11 (Nat.le_of_ble_eq_true rfl) rfl rfl fl_X11_10 dX11_stair_9 (fun (v3 : Int) (hv3 : 0 ≤ v3) => ?_)
    refine j_getr (ci := 10) (k := 14) rfl in_X10 (Nat.le_of_ble_eq_true rfl) rfl rfl fl_X11_338 dX11_stair_12 (fun (v4 : Int) (hv4 : 0 ≤ v4) => ?_)
    refine j_iload_n 1 dX11_stair_15 rfl rfl ?_
    refine j_iload_n 2 dX11_stair_16 rfl rfl ?_
    refine j_callV (ci := 7) (As := [(0, a1), (0, a2)]) (st := []) kc_X7_joins (c_X7_joins v4 a1 a2 S2 hv4 h1 h2) rfl lm_X11_342 ki_X7_joins ke_X7_joins rfl (Nat.le_of_ble_eq_true rfl) (Nat.le_trans (m := 3) (Nat.le_of_ble_eq_true rfl) hd0) dX11_stair_17 (fun (v5 : Int) (S6 : jSt) (hv5 : (v5) = 0 ∨ (v5) = 1) => ?_)
    refine j_if_eq (tgt := 25) (jZ_R hv5) dX11_stair_20 rfl (fun _ => ?_) (fun _ => ?_)
    · refine j_aload_n 0 dX11_stair_25 rfl rfl ?_
      refine j_getr (ci := 11) (k := 0) rfl in_X11 (Nat.le_of_ble_eq_true rfl) rfl rfl fl_X11_10 dX11_stair_26 (fun (v7 : Int) (hv7 : 0 ≤ v7) => ?_)
      refine j_getr (ci := 10) (k := 14) rfl in_X10 (Nat.le_of_ble_eq_true rfl) rfl rfl fl_X11_338 dX11_stair_29 (fun (v8 : Int) (hv8 : 0 ≤ v8) => ?_)
      refine j_iload_n 1 dX11_stair_32 rfl rfl ?_
      refine j_iload_n 2 dX11_stair_33 rfl rfl ?_
      refine j_callV (ci := 7) (As := [(0, a1), (0, a2)]) (st := []) kc_X7_turn (c_X7_turn v8 a1 a2 S6 hv8 h1 h2) rfl lm_X11_347 ki_X7_turn ke_X7_turn rfl (Nat.le_of_ble_eq_true rfl) (Nat.le_trans (m := 3) (Nat.le_of_ble_eq_true rfl) hd0) dX11_stair_34 (fun v9 S10 _ => ?_)
      refine j_iconst dX11_stair_37 ?_
      exact j_zreturn jz1 dX11_stair_38
    · refine j_sub [] rfl ?_
      exact p_f_X11_stair_b23 hd0 S6
theorem c_X11_stair {G : jG} (a0 : Int) (a1 : Int) (a2 : Int) (S : jSt) (h0 : 0 ≤ (a0)) (h1 : R32 (a1)) (h2 : R32 (a2)) : CT G yX11_stair cX11_stair 3 (some .boolean) 3 ([(2, a0), (0, a1), (0, a2)].map jval) S (f_X11_stair a0 a1 a2 S) := ct_of [(2, a0), (0, a1), (0, a2)] (by decide) rfl (Nat.le_of_ble_eq_true rfl) (e_X11_stair (Nat.le_refl _) a0 a1 a2 S h0 h1 h2)
-- X11_takes
def f_X11_takes_b32 (S : jSt) : Option (Int × jSt) :=
  some ((-1), S)
theorem p_f_X11_takes_b32 {G : jG} {d : Nat} {S0 : jSt} (hd0 : 3 ≤ d) : ∀ (S : jSt), J G yX11_takes cX11_takes 3 (some .int) d S0 32 [] [] S (f_X11_takes_b32   S) := by
  intro S
  unfold f_X11_takes_b32
  refine j_iconst dX11_takes_32 ?_
  exact j_ireturn (j_r32 (-1) rfl) dX11_takes_33
def f_X11_takes_b65 (x0 : Int) (S : jSt) : Option (Int × jSt) :=
  some (x0, S)
theorem p_f_X11_takes_b65 {G : jG} {d : Nat} {S0 : jSt} (hd0 : 3 ≤ d) : ∀ (x0 : Int) (S : jSt), ((x0) = 0 ∨ (x0) = 1) → J G yX11_takes cX11_takes 3 (some .int) d S0 65 [] [(0, x0)] S (f_X11_takes_b65  x0 S) := by
  intro x0 S h0
  unfold f_X11_takes_b65
  exact j_ireturn (jZ_R h0) dX11_takes_65
def f_X11_takes (a0 : Int) (a1 : Int) (a2 : Int) (S : jSt) : Option (Int × jSt) :=
  fcall (f_X11_within a1 0 6 S) (fun v1 S2 => if v1 = 0 then f_X11_takes_b32 S2 else fcall (f_X11_within a2 0 5 S2) (fun v3 S4 => if v3 = 0 then f_X11_takes_b32 S4 else fgetr S4 a0 11 0 (fun v5 => fgetr S4 v5 10 15 (fun v6 => fcallv S4 v6 3 (f_X3_areWhole v6 S4) (fun v7 S8 => if v7 = 0 then f_X11_takes_b32 S8 else fcall (f_X3_unitOf a1 S8) (fun v9 S10 => fgetr S10 a0 11 0 (fun v11 => fgetr S10 v11 10 15 (fun v12 => fcallv S10 v12 3 (f_X3_meanOf v12 a1 S10) (fun v13 S14 => if (w64 ((w64 (10 * a2)) * v9)) < v13 then f_X11_takes_b65 0 S14 else f_X11_takes_b65 1 S14)))))))))
theorem e_X11_takes {G : jG} {d : Nat} {S0 : jSt} (hd0 : 3 ≤ d) (a0 : Int) (a1 : Int) (a2 : Int) (S : jSt) (h0 : 0 ≤ (a0)) (h1 : R32 (a1)) (h2 : R32 (a2)) : J G yX11_takes cX11_takes 3 (some .int) d S0 0 [(0, 2, a0), (1, 0, a1), (2, 0, a2)] [] S (f_X11_takes a0 a1 a2 S) := by
  unfold f_X11_takes
  refine j_iload_n 1 dX11_takes_0 rfl rfl ?_
  refine j_iconst dX11_takes_1 ?_
  refine j_bipush dX11_takes_2 (by decide) ?_
  refine j_callS (As := [(0, a1), (0, 0), (0, 6)]) (st := []) kc_X11_within (c_X11_within a1 0 6 S h1 (jZ_R jz0) (j_r32 6 rfl)) lm_X11_76 ks_X11_within rfl (Nat.le_of_ble_eq_true rfl) (Nat.le_trans (m := 3) (Nat.le_of_ble_eq_true rfl) hd0) dX11_takes_4 (fun (v1 : Int) (S2 : jSt) (hv1 : (v1) = 0 ∨ (v1) = 1) => ?_)
  refine j_if_eq (tgt := 32) (jZ_R hv1) dX11_takes_7 rfl (fun _ => ?_) (fun _ => ?_)
  · refine j_sub [] rfl ?_
    exact p_f_X11_takes_b32 hd0 S2
  · refine j_iload_n 2 dX11_takes_10 rfl rfl ?_
    refine j_iconst dX11_takes_11 ?_
    refine j_iconst dX11_takes_12 ?_
    refine j_callS (As := [(0, a2), (0, 0), (0, 5)]) (st := []) kc_X11_within (c_X11_within a2 0 5 S2 h2 (jZ_R jz0) (j_r32 5 rfl)) lm_X11_76 ks_X11_within rfl (Nat.le_of_ble_eq_true rfl) (Nat.le_trans (m := 3) (Nat.le_of_ble_eq_true rfl) hd0) dX11_takes_13 (fun (v3 : Int) (S4 : jSt) (hv3 : (v3) = 0 ∨ (v3) = 1) => ?_)
    refine j_if_eq (tgt := 32) (jZ_R hv3) dX11_takes_16 rfl (fun _ => ?_) (fun _ => ?_)
    · refine j_sub [] rfl ?_
      exact p_f_X11_takes_b32 hd0 S4
    · refine j_aload_n 0 dX11_takes_19 rfl rfl ?_
      refine j_getr (ci := 11) (k := 0) rfl in_X11 (Nat.le_of_ble_eq_true rfl) rfl rfl fl_X11_10 dX11_takes_20 (fun (v5 : Int) (hv5 : 0 ≤ v5) => ?_)
      refine j_getr (ci := 10) (k := 15) rfl in_X10 (Nat.le_of_ble_eq_true rfl) rfl rfl fl_X11_359 dX11_takes_23 (fun (v6 : Int) (hv6 : 0 ≤ v6) => ?_)
      refine j_callV (ci := 3) (As := []) (st := []) kc_X3_areWhole (c_X3_areWhole v6 S4 hv6) rfl lm_X11_368 ki_X3_areWhole ke_X3_areWhole rfl (Nat.le_of_ble_eq_true rfl) (Nat.le_trans (m := 3) (Nat.le_of_ble_eq_true rfl) hd0) dX11_takes_26 (fun (v7 : Int) (S8 : jSt) (hv7 : (v7) = 0 ∨ (v7) = 1) => ?_)
      refine j_if_ne (tgt := 34) (jZ_R hv7) dX11_takes_29 rfl (fun _ => ?_) (fun _ => ?_)
      · refine j_ldc2 cn_X11_384 dX11_takes_34 ?_
        refine j_iload_n 2 dX11_takes_37 rfl rfl ?_
        refine j_i2l h2 dX11_takes_38 ?_
        refine j_lmul dX11_takes_39 ?_
        refine j_iload_n 1 dX11_takes_40 rfl rfl ?_
        refine j_callS (As := [(0, a1)]) (st := [(1, w64 (10 * a2))]) kc_X3_unitOf (c_X3_unitOf a1 S8 h1) lm_X11_373 ks_X3_unitOf rfl (Nat.le_of_ble_eq_true rfl) (Nat.le_trans (m := 3) (Nat.le_of_ble_eq_true rfl) hd0) dX11_takes_41 (fun (v9 : Int) (S10 : jSt) (hv9 : R64 (v9)) => ?_)
        refine j_lmul dX11_takes_44 ?_
        refine j_aload_n 0 dX11_takes_45 rfl rfl ?_
        refine j_getr (ci := 11) (k := 0) rfl in_X11 (Nat.le_of_ble_eq_true rfl) rfl rfl fl_X11_10 dX11_takes_46 (fun (v11 : Int) (hv11 : 0 ≤ v11) => ?_)
        refine j_getr (ci := 10) (k := 15) rfl in_X10 (Nat.le_of_ble_eq_true rfl) rfl rfl fl_X11_359 dX11_takes_49 (fun (v12 : Int) (hv12 : 0 ≤ v12) => ?_)
        refine j_iload_n 1 dX11_takes_52 rfl rfl ?_
        refine j_callV (ci := 3) (As := [(0, a1)]) (st := [(1, w64 ((w64 (10 * a2)) * v9))]) kc_X3_meanOf (c_X3_meanOf v12 a1 S10 hv12 h1) rfl lm_X11_377 ki_X3_meanOf ke_X3_meanOf rfl (Nat.le_of_ble_eq_true rfl) (Nat.le_trans (m := 3) (Nat.le_of_ble_eq_true rfl) hd0) dX11_takes_53 (fun (v13 : Int) (S14 : jSt) (hv13 : R64 (v13)) => ?_)
        refine j_lcmp_lt (tgt := 64) (w64_R _) hv13 dX11_takes_56 dX11_takes_57 rfl (fun _ => ?_) (fun _ => ?_)
        · refine j_iconst dX11_takes_64 ?_
          refine j_sub [] rfl ?_
          exact p_f_X11_takes_b65 hd0 0 S14 jz0
        · refine j_iconst dX11_takes_60 ?_
          refine j_goto (tgt := 65) dX11_takes_61 rfl ?_
          refine j_sub [] rfl ?_
          exact p_f_X11_takes_b65 hd0 1 S14 jz1
      · refine j_sub [] rfl ?_
        exact p_f_X11_takes_b32 hd0 S8
theorem c_X11_takes {G : jG} (a0 : Int) (a1 : Int) (a2 : Int) (S : jSt) (h0 : 0 ≤ (a0)) (h1 : R32 (a1)) (h2 : R32 (a2)) : CT G yX11_takes cX11_takes 3 (some .int) 3 ([(2, a0), (0, a1), (0, a2)].map jval) S (f_X11_takes a0 a1 a2 S) := ct_of [(2, a0), (0, a1), (0, a2)] (by decide) rfl (Nat.le_of_ble_eq_true rfl) (e_X11_takes (Nat.le_refl _) a0 a1 a2 S h0 h1 h2)
-- X9_kindAt
def f_X9_kindAt_b23 (x0 : Int) (S : jSt) : Option (Int × jSt) :=
  some (x0, S)
theorem p_f_X9_kindAt_b23 {G : jG} {d : Nat} {S0 : jSt} (hd0 : 1 ≤ d) : ∀ (x0 : Int) (S : jSt), (R32 (x0)) → J G yX9_kindAt cX9_kindAt 2 (some .int) d S0 23 [] [(0, x0)] S (f_X9_kindAt_b23  x0 S) := by
  intro x0 S h0
  unfold f_X9_kindAt_b23
  exact j_ireturn h0 dX9_kindAt_23
def f_X9_kindAt_b21 (S : jSt) : Option (Int × jSt) :=
  f_X9_kindAt_b23 44 S
theorem p_f_X9_kindAt_b21 {G : jG} {d : Nat} {S0 : jSt} (hd0 : 1 ≤ d) : ∀ (S : jSt), J G yX9_kindAt cX9_kindAt 2 (some .int) d S0 21 [] [] S (f_X9_kindAt_b21   S) := by
  intro S
  unfold f_X9_kindAt_b21
  refine j_bipush dX9_kindAt_21 (by decide) ?_
  exact p_f_X9_kindAt_b23 hd0 44 S (j_r32 44 rfl)
def f_X9_kindAt (a0 : Int) (a1 : Int) (S : jSt) : Option (Int × jSt) :=
  if a1 < 0 then f_X9_kindAt_b21 S else fget S a0 9 1 (fun v1 => if v1 ≤ a1 then f_X9_kindAt_b21 S else fgetr S a0 9 3 (fun v2 => fald S v2 a1 1 (fun v3 => f_X9_kindAt_b23 v3 S)))
theorem e_X9_kindAt {G : jG} {d : Nat} {S0 : jSt} (hd0 : 1 ≤ d) (a0 : Int) (a1 : Int) (S : jSt) (h0 : 0 ≤ (a0)) (h1 : R32 (a1)) : J G yX9_kindAt cX9_kindAt 2 (some .int) d S0 0 [(0, 2, a0), (1, 0, a1)] [] S (f_X9_kindAt a0 a1 S) := by
  unfold f_X9_kindAt
  refine j_iload_n 1 dX9_kindAt_0 rfl rfl ?_
  refine j_if_lt (tgt := 21) h1 dX9_kindAt_1 rfl (fun _ => ?_) (fun _ => ?_)
  · refine j_sub [] rfl ?_
    exact p_f_X9_kindAt_b21 hd0 S
  · refine j_iload_n 1 dX9_kindAt_4 rfl rfl ?_
    refine j_aload_n 0 dX9_kindAt_5 rfl rfl ?_
    refine j_get (ci := 9) (k := 1) (t := 0) rfl in_X9 (Nat.le_of_ble_eq_true rfl) rfl rfl fl_X9_28 dX9_kindAt_6 (fun (v1 : Int) (hv1 : R32 (v1)) => ?_)
    refine j_icmp_ge (tgt := 21) h1 hv1 dX9_kindAt_9 rfl (fun _ => ?_) (fun _ => ?_)
    · refine j_sub [] rfl ?_
      exact p_f_X9_kindAt_b21 hd0 S
    · refine j_aload_n 0 dX9_kindAt_12 rfl rfl ?_
      refine j_getr (ci := 9) (k := 3) rfl in_X9 (Nat.le_of_ble_eq_true rfl) rfl rfl fl_X9_15 dX9_kindAt_13 (fun (v2 : Int) (hv2 : 0 ≤ v2) => ?_)
      refine j_iload_n 1 dX9_kindAt_16 rfl rfl ?_
      refine j_iaload h1 dX9_kindAt_17 (fun (v3 : Int) (hv3 : R32 (v3)) => ?_)
      refine j_goto (tgt := 23) dX9_kindAt_18 rfl ?_
      refine j_sub [] rfl ?_
      exact p_f_X9_kindAt_b23 hd0 v3 S hv3
theorem c_X9_kindAt {G : jG} (a0 : Int) (a1 : Int) (S : jSt) (h0 : 0 ≤ (a0)) (h1 : R32 (a1)) : CT G yX9_kindAt cX9_kindAt 2 (some .int) 1 ([(2, a0), (0, a1)].map jval) S (f_X9_kindAt a0 a1 S) := ct_of [(2, a0), (0, a1)] (by decide) rfl (Nat.le_of_ble_eq_true rfl) (e_X9_kindAt (Nat.le_refl _) a0 a1 S h0 h1)
-- X4_kind
def f_X4_kind (a0 : Int) (S : jSt) : Option (Int × jSt) :=
  fgetr S a0 4 2 (fun v1 => fget S a0 4 3 (fun v2 => fcallv S v1 9 (f_X9_kindAt v1 v2 S) (fun v3 S4 => some (v3, S4))))
theorem e_X4_kind {G : jG} {d : Nat} {S0 : jSt} (hd0 : 2 ≤ d) (a0 : Int) (S : jSt) (h0 : 0 ≤ (a0)) : J G yX4_kind cX4_kind 1 (some .int) d S0 0 [(0, 2, a0)] [] S (f_X4_kind a0 S) := by
  unfold f_X4_kind
  refine j_aload_n 0 dX4_kind_0 rfl rfl ?_
  refine j_getr (ci := 4) (k := 2) rfl in_X4 (Nat.le_of_ble_eq_true rfl) rfl rfl fl_X4_31 dX4_kind_1 (fun (v1 : Int) (hv1 : 0 ≤ v1) => ?_)
  refine j_aload_n 0 dX4_kind_4 rfl rfl ?_
  refine j_get (ci := 4) (k := 3) (t := 0) rfl in_X4 (Nat.le_of_ble_eq_true rfl) rfl rfl fl_X4_40 dX4_kind_5 (fun (v2 : Int) (hv2 : R32 (v2)) => ?_)
  refine j_callV (ci := 9) (As := [(0, v2)]) (st := []) kc_X9_kindAt (c_X9_kindAt v1 v2 S hv1 hv2) rfl lm_X4_77 ki_X9_kindAt ke_X9_kindAt rfl (Nat.le_of_ble_eq_true rfl) (Nat.le_trans (m := 2) (Nat.le_of_ble_eq_true rfl) hd0) dX4_kind_8 (fun (v3 : Int) (S4 : jSt) (hv3 : R32 (v3)) => ?_)
  exact j_ireturn hv3 dX4_kind_11
theorem c_X4_kind {G : jG} (a0 : Int) (S : jSt) (h0 : 0 ≤ (a0)) : CT G yX4_kind cX4_kind 1 (some .int) 2 ([(2, a0)].map jval) S (f_X4_kind a0 S) := ct_of [(2, a0)] (by decide) rfl (Nat.le_of_ble_eq_true rfl) (e_X4_kind (Nat.le_refl _) a0 S h0)
-- X9_placeAt
def f_X9_placeAt_b25 (x0 : Int) (S : jSt) : Option (Int × jSt) :=
  some (x0, S)
theorem p_f_X9_placeAt_b25 {G : jG} {d : Nat} {S0 : jSt} (hd0 : 1 ≤ d) : ∀ (x0 : Int) (S : jSt), (R32 (x0)) → J G yX9_placeAt cX9_placeAt 2 (some .int) d S0 25 [] [(0, x0)] S (f_X9_placeAt_b25  x0 S) := by
  intro x0 S h0
  unfold f_X9_placeAt_b25
  exact j_ireturn h0 dX9_placeAt_25
def f_X9_placeAt_b21 (x0 : Int) (S : jSt) : Option (Int × jSt) :=
  fget S x0 9 0 (fun v1 => f_X9_placeAt_b25 v1 S)
theorem p_f_X9_placeAt_b21 {G : jG} {d : Nat} {S0 : jSt} (hd0 : 1 ≤ d) : ∀ (x0 : Int) (S : jSt), (0 ≤ (x0)) → J G yX9_placeAt cX9_placeAt 2 (some .int) d S0 21 [(0, 2, x0)] [] S (f_X9_placeAt_b21  x0 S) := by
  intro x0 S h0
  unfold f_X9_placeAt_b21
  refine j_aload_n 0 dX9_placeAt_21 rfl rfl ?_
  refine j_get (ci := 9) (k := 0) (t := 0) rfl in_X9 (Nat.le_of_ble_eq_true rfl) rfl rfl fl_X9_24 dX9_placeAt_22 (fun (v1 : Int) (hv1 : R32 (v1)) => ?_)
  refine j_sub [] rfl ?_
  exact p_f_X9_placeAt_b25 hd0 v1 S hv1
def f_X9_placeAt (a0 : Int) (a1 : Int) (S : jSt) : Option (Int × jSt) :=
  if a1 < 0 then f_X9_placeAt_b21 a0 S else fget S a0 9 1 (fun v2 => if v2 ≤ a1 then f_X9_placeAt_b21 a0 S else fgetr S a0 9 4 (fun v3 => fald S v3 a1 1 (fun v4 => f_X9_placeAt_b25 v4 S)))
theorem e_X9_placeAt {G : jG} {d : Nat} {S0 : jSt} (hd0 : 1 ≤ d) (a0 : Int) (a1 : Int) (S : jSt) (h0 : 0 ≤ (a0)) (h1 : R32 (a1)) : J G yX9_placeAt cX9_placeAt 2 (some .int) d S0 0 [(0, 2, a0), (1, 0, a1)] [] S (f_X9_placeAt a0 a1 S) := by
  unfold f_X9_placeAt
  refine j_iload_n 1 dX9_placeAt_0 rfl rfl ?_
  refine j_if_lt (tgt := 21) h1 dX9_placeAt_1 rfl (fun _ => ?_) (fun _ => ?_)
  · refine j_sub [0] rfl ?_
    exact p_f_X9_placeAt_b21 hd0 a0 S h0
  · refine j_iload_n 1 dX9_placeAt_4 rfl rfl ?_
    refine j_aload_n 0 dX9_placeAt_5 rfl rfl ?_
    refine j_get (ci := 9) (k := 1) (t := 0) rfl in_X9 (Nat.le_of_ble_eq_true rfl) rfl rfl fl_X9_28 dX9_placeAt_6 (fun (v2 : Int) (hv2 : R32 (v2)) => ?_)
    refine j_icmp_ge (tgt := 21) h1 hv2 dX9_placeAt_9 rfl (fun _ => ?_) (fun _ => ?_)
    · refine j_sub [0] rfl ?_
      exact p_f_X9_placeAt_b21 hd0 a0 S h0
    · refine j_aload_n 0 dX9_placeAt_12 rfl rfl ?_
      refine j_getr (ci := 9) (k := 4) rfl in_X9 (Nat.le_of_ble_eq_true rfl) rfl rfl fl_X9_18 dX9_placeAt_13 (fun (v3 : Int) (hv3 : 0 ≤ v3) => ?_)
      refine j_iload_n 1 dX9_placeAt_16 rfl rfl ?_
      refine j_iaload h1 dX9_placeAt_17 (fun (v4 : Int) (hv4 : R32 (v4)) => ?_)
      refine j_goto (tgt := 25) dX9_placeAt_18 rfl ?_
      refine j_sub [] rfl ?_
      exact p_f_X9_placeAt_b25 hd0 v4 S hv4
theorem c_X9_placeAt {G : jG} (a0 : Int) (a1 : Int) (S : jSt) (h0 : 0 ≤ (a0)) (h1 : R32 (a1)) : CT G yX9_placeAt cX9_placeAt 2 (some .int) 1 ([(2, a0), (0, a1)].map jval) S (f_X9_placeAt a0 a1 S) := ct_of [(2, a0), (0, a1)] (by decide) rfl (Nat.le_of_ble_eq_true rfl) (e_X9_placeAt (Nat.le_refl _) a0 a1 S h0 h1)
-- X4_refuse
def f_X4_refuse (a0 : Int) (a1 : Int) (S : jSt) : Option (Int × jSt) :=
  fput S a0 4 0 a1 (fun S1 => fgetr S1 a0 4 2 (fun v2 => fget S1 a0 4 3 (fun v3 => fcallv S1 v2 9 (f_X9_placeAt v2 v3 S1) (fun v4 S5 => fput S5 a0 4 1 v4 (fun S6 => some (0, S6))))))
theorem e_X4_refuse {G : jG} {d : Nat} {S0 : jSt} (hd0 : 2 ≤ d) (a0 : Int) (a1 : Int) (S : jSt) (h0 : 0 ≤ (a0)) (h1 : R32 (a1)) : J G yX4_refuse cX4_refuse 2 (some .boolean) d S0 0 [(0, 2, a0), (1, 0, a1)] [] S (f_X4_refuse a0 a1 S) := by
  unfold f_X4_refuse
  refine j_aload_n 0 dX4_refuse_0 rfl rfl ?_
  refine j_iload_n 1 dX4_refuse_1 rfl rfl ?_
  refine j_puti (ci := 4) (k := 0) (ty0 := tyX4) rfl in_X4 (Nat.le_of_ble_eq_true rfl) rfl tyX4_ok nmX4 rfl rfl (by decide +kernel) h1 fl_X4_9 dX4_refuse_2 (fun S1 => ?_)
  refine j_aload_n 0 dX4_refuse_5 rfl rfl ?_
  refine j_aload_n 0 dX4_refuse_6 rfl rfl ?_
  refine j_getr (ci := 4) (k := 2) rfl in_X4 (Nat.le_of_ble_eq_true rfl) rfl rfl fl_X4_31 dX4_refuse_7 (fun (v2 : Int) (hv2 : 0 ≤ v2) => ?_)
  refine j_aload_n 0 dX4_refuse_10 rfl rfl ?_
  refine j_get (ci := 4) (k := 3) (t := 0) rfl in_X4 (Nat.le_of_ble_eq_true rfl) rfl rfl fl_X4_40 dX4_refuse_11 (fun (v3 : Int) (hv3 : R32 (v3)) => ?_)
  refine j_callV (ci := 9) (As := [(0, v3)]) (st := [(2, a0)]) kc_X9_placeAt (c_X9_placeAt v2 v3 S1 hv2 hv3) rfl lm_X4_81 ki_X9_placeAt ke_X9_placeAt rfl (Nat.le_of_ble_eq_true rfl) (Nat.le_trans (m := 2) (Nat.le_of_ble_eq_true rfl) hd0) dX4_refuse_14 (fun (v4 : Int) (S5 : jSt) (hv4 : R32 (v4)) => ?_)
  refine j_puti (ci := 4) (k := 1) (ty0 := tyX4) rfl in_X4 (Nat.le_of_ble_eq_true rfl) rfl tyX4_ok nmX4 rfl rfl (by decide +kernel) hv4 fl_X4_15 dX4_refuse_17 (fun S6 => ?_)
  refine j_iconst dX4_refuse_20 ?_
  exact j_zreturn jz0 dX4_refuse_21
theorem c_X4_refuse {G : jG} (a0 : Int) (a1 : Int) (S : jSt) (h0 : 0 ≤ (a0)) (h1 : R32 (a1)) : CT G yX4_refuse cX4_refuse 2 (some .boolean) 2 ([(2, a0), (0, a1)].map jval) S (f_X4_refuse a0 a1 S) := ct_of [(2, a0), (0, a1)] (by decide) rfl (Nat.le_of_ble_eq_true rfl) (e_X4_refuse (Nat.le_refl _) a0 a1 S h0 h1)
-- X4_readKind
def f_X4_readKind (a0 : Int) (a1 : Int) (S : jSt) : Option (Int × jSt) :=
  fcallv S a0 4 (f_X4_kind a0 S) (fun v1 S2 => if v1 = a1 then fget S2 a0 4 3 (fun v3 => fput S2 a0 4 3 (w32 (v3 + 1)) (fun S4 => some (1, S4))) else fcallv S2 a0 4 (f_X4_refuse a0 1 S2) (fun v5 S6 => some (v5, S6)))
theorem e_X4_readKind {G : jG} {d : Nat} {S0 : jSt} (hd0 : 3 ≤ d) (a0 : Int) (a1 : Int) (S : jSt) (h0 : 0 ≤ (a0)) (h1 : R32 (a1)) : J G yX4_readKind cX4_readKind 2 (some .boolean) d S0 0 [(0, 2, a0), (1, 0, a1)] [] S (f_X4_readKind a0 a1 S) := by
  unfold f_X4_readKind
  refine j_aload_n 0 dX4_readKind_0 rfl rfl ?_
  refine j_callV (ci := 4) (As := []) (st := []) kc_X4_kind (c_X4_kind a0 S h0) rfl lm_X4_55 ki_X4_kind ke_X4_kind rfl (Nat.le_of_ble_eq_true rfl) (Nat.le_trans (m := 3) (Nat.le_of_ble_eq_true rfl) hd0) dX4_readKind_1 (fun (v1 : Int) (S2 : jSt) (hv1 : R32 (v1)) => ?_)
  refine j_iload_n 1 dX4_readKind_4 rfl rfl ?_
  refine j_icmp_eq (tgt := 14) hv1 h1 dX4_readKind_5 rfl (fun _ => ?_) (fun _ => ?_)
  · refine j_aload_n 0 dX4_readKind_14 rfl rfl ?_
    refine j_dup dX4_readKind_15 (fun h => nomatch h) ?_
    refine j_get (ci := 4) (k := 3) (t := 0) rfl in_X4 (Nat.le_of_ble_eq_true rfl) rfl rfl fl_X4_40 dX4_readKind_16 (fun (v3 : Int) (hv3 : R32 (v3)) => ?_)
    refine j_iconst dX4_readKind_19 ?_
    refine j_iadd dX4_readKind_20 ?_
    refine j_puti (ci := 4) (k := 3) (ty0 := tyX4) rfl in_X4 (Nat.le_of_ble_eq_true rfl) rfl tyX4_ok nmX4 rfl rfl (by decide +kernel) (w32_R _) fl_X4_40 dX4_readKind_21 (fun S4 => ?_)
    refine j_iconst dX4_readKind_24 ?_
    exact j_zreturn jz1 dX4_readKind_25
  · refine j_aload_n 0 dX4_readKind_8 rfl rfl ?_
    refine j_iconst dX4_readKind_9 ?_
    refine j_callV (ci := 4) (As := [(0, 1)]) (st := []) kc_X4_refuse (c_X4_refuse a0 1 S2 h0 (jZ_R jz1)) rfl lm_X4_84 ki_X4_refuse ke_X4_refuse rfl (Nat.le_of_ble_eq_true rfl) (Nat.le_trans (m := 3) (Nat.le_of_ble_eq_true rfl) hd0) dX4_readKind_10 (fun (v5 : Int) (S6 : jSt) (hv5 : (v5) = 0 ∨ (v5) = 1) => ?_)
    exact j_zreturn hv5 dX4_readKind_13
theorem c_X4_readKind {G : jG} (a0 : Int) (a1 : Int) (S : jSt) (h0 : 0 ≤ (a0)) (h1 : R32 (a1)) : CT G yX4_readKind cX4_readKind 2 (some .boolean) 3 ([(2, a0), (0, a1)].map jval) S (f_X4_readKind a0 a1 S) := ct_of [(2, a0), (0, a1)] (by decide) rfl (Nat.le_of_ble_eq_true rfl) (e_X4_readKind (Nat.le_refl _) a0 a1 S h0 h1)
-- X9_valueAt
def f_X9_valueAt_b22 (x0 : Int) (S : jSt) : Option (Int × jSt) :=
  some (x0, S)
theorem p_f_X9_valueAt_b22 {G : jG} {d : Nat} {S0 : jSt} (hd0 : 1 ≤ d) : ∀ (x0 : Int) (S : jSt), (R32 (x0)) → J G yX9_valueAt cX9_valueAt 2 (some .int) d S0 22 [] [(0, x0)] S (f_X9_valueAt_b22  x0 S) := by
  intro x0 S h0
  unfold f_X9_valueAt_b22
  exact j_ireturn h0 dX9_valueAt_22
def f_X9_valueAt_b21 (S : jSt) : Option (Int × jSt) :=
  f_X9_valueAt_b22 0 S
theorem p_f_X9_valueAt_b21 {G : jG} {d : Nat} {S0 : jSt} (hd0 : 1 ≤ d) : ∀ (S : jSt), J G yX9_valueAt cX9_valueAt 2 (some .int) d S0 21 [] [] S (f_X9_valueAt_b21   S) := by
  intro S
  unfold f_X9_valueAt_b21
  refine j_iconst dX9_valueAt_21 ?_
  exact p_f_X9_valueAt_b22 hd0 0 S (jZ_R jz0)
def f_X9_valueAt (a0 : Int) (a1 : Int) (S : jSt) : Option (Int × jSt) :=
  if a1 < 0 then f_X9_valueAt_b21 S else fget S a0 9 1 (fun v1 => if v1 ≤ a1 then f_X9_valueAt_b21 S else fgetr S a0 9 5 (fun v2 => fald S v2 a1 1 (fun v3 => f_X9_valueAt_b22 v3 S)))
theorem e_X9_valueAt {G : jG} {d : Nat} {S0 : jSt} (hd0 : 1 ≤ d) (a0 : Int) (a1 : Int) (S : jSt) (h0 : 0 ≤ (a0)) (h1 : R32 (a1)) : J G yX9_valueAt cX9_valueAt 2 (some .int) d S0 0 [(0, 2, a0), (1, 0, a1)] [] S (f_X9_valueAt a0 a1 S) := by
  unfold f_X9_valueAt
  refine j_iload_n 1 dX9_valueAt_0 rfl rfl ?_
  refine j_if_lt (tgt := 21) h1 dX9_valueAt_1 rfl (fun _ => ?_) (fun _ => ?_)
  · refine j_sub [] rfl ?_
    exact p_f_X9_valueAt_b21 hd0 S
  · refine j_iload_n 1 dX9_valueAt_4 rfl rfl ?_
    refine j_aload_n 0 dX9_valueAt_5 rfl rfl ?_
    refine j_get (ci := 9) (k := 1) (t := 0) rfl in_X9 (Nat.le_of_ble_eq_true rfl) rfl rfl fl_X9_28 dX9_valueAt_6 (fun (v1 : Int) (hv1 : R32 (v1)) => ?_)
    refine j_icmp_ge (tgt := 21) h1 hv1 dX9_valueAt_9 rfl (fun _ => ?_) (fun _ => ?_)
    · refine j_sub [] rfl ?_
      exact p_f_X9_valueAt_b21 hd0 S
    · refine j_aload_n 0 dX9_valueAt_12 rfl rfl ?_
      refine j_getr (ci := 9) (k := 5) rfl in_X9 (Nat.le_of_ble_eq_true rfl) rfl rfl fl_X9_21 dX9_valueAt_13 (fun (v2 : Int) (hv2 : 0 ≤ v2) => ?_)
      refine j_iload_n 1 dX9_valueAt_16 rfl rfl ?_
      refine j_iaload h1 dX9_valueAt_17 (fun (v3 : Int) (hv3 : R32 (v3)) => ?_)
      refine j_goto (tgt := 22) dX9_valueAt_18 rfl ?_
      refine j_sub [] rfl ?_
      exact p_f_X9_valueAt_b22 hd0 v3 S hv3
theorem c_X9_valueAt {G : jG} (a0 : Int) (a1 : Int) (S : jSt) (h0 : 0 ≤ (a0)) (h1 : R32 (a1)) : CT G yX9_valueAt cX9_valueAt 2 (some .int) 1 ([(2, a0), (0, a1)].map jval) S (f_X9_valueAt a0 a1 S) := ct_of [(2, a0), (0, a1)] (by decide) rfl (Nat.le_of_ble_eq_true rfl) (e_X9_valueAt (Nat.le_refl _) a0 a1 S h0 h1)
-- X4_readNumber
def f_X4_readNumber (a0 : Int) (a1 : Int) (a2 : Int) (a3 : Int) (S : jSt) : Option (Int × jSt) :=
  fcallv S a0 4 (f_X4_kind a0 S) (fun v1 S2 => if v1 = 30 then fgetr S2 a0 4 2 (fun v3 => fget S2 a0 4 3 (fun v4 => fcallv S2 v3 9 (f_X9_valueAt v3 v4 S2) (fun v5 S6 => fcall (f_X11_within v5 a2 a3 S6) (fun v7 S8 => if v7 = 0 then fcallv S8 a0 4 (f_X4_refuse a0 2 S8) (fun v14 S15 => some (v14, S15)) else fgetr S8 a0 4 7 (fun v9 => fget S8 a0 4 5 (fun v10 => fast S8 v9 (w32 ((w32 (v10 * 4)) + a1)) 1 v5 (fun S11 => fget S11 a0 4 3 (fun v12 => fput S11 a0 4 3 (w32 (v12 + 1)) (fun S13 => some (1, S13)))))))))) else fcallv S2 a0 4 (f_X4_refuse a0 1 S2) (fun v16 S17 => some (v16, S17)))
theorem e_X4_readNumber {G : jG} {d : Nat} {S0 : jSt} (hd0 : 3 ≤ d) (a0 : Int) (a1 : Int) (a2 : Int) (a3 : Int) (S : jSt) (h0 : 0 ≤ (a0)) (h1 : R32 (a1)) (h2 : R32 (a2)) (h3 : R32 (a3)) : J G yX4_readNumber cX4_readNumber 5 (some .boolean) d S0 0 [(0, 2, a0), (1, 0, a1), (2, 0, a2), (3, 0, a3)] [] S (f_X4_readNumber a0 a1 a2 a3 S) := by
  unfold f_X4_readNumber
  refine j_aload_n 0 dX4_readNumber_0 rfl rfl ?_
  refine j_callV (ci := 4) (As := []) (st := []) kc_X4_kind (c_X4_kind a0 S h0) rfl lm_X4_55 ki_X4_kind ke_X4_kind rfl (Nat.le_of_ble_eq_true rfl) (Nat.le_trans (m := 3) (Nat.le_of_ble_eq_true rfl) hd0) dX4_readNumber_1 (fun (v1 : Int) (S2 : jSt) (hv1 : R32 (v1)) => ?_)
  refine j_bipush dX4_readNumber_4 (by decide) ?_
  refine j_icmp_eq (tgt := 15) hv1 (j_r32 30 rfl) dX4_readNumber_6 rfl (fun _ => ?_) (fun _ => ?_)
  · refine j_aload_n 0 dX4_readNumber_15 rfl rfl ?_
    refine j_getr (ci := 4) (k := 2) rfl in_X4 (Nat.le_of_ble_eq_true rfl) rfl rfl fl_X4_31 dX4_readNumber_16 (fun (v3 : Int) (hv3 : 0 ≤ v3) => ?_)
    refine j_aload_n 0 dX4_readNumber_19 rfl rfl ?_
    refine j_get (ci := 4) (k := 3) (t := 0) rfl in_X4 (Nat.le_of_ble_eq_true rfl) rfl rfl fl_X4_40 dX4_readNumber_20 (fun (v4 : Int) (hv4 : R32 (v4)) => ?_)
    refine j_callV (ci := 9) (As := [(0, v4)]) (st := []) kc_X9_valueAt (c_X9_valueAt v3 v4 S2 hv3 hv4) rfl lm_X4_110 ki_X9_valueAt ke_X9_valueAt rfl (Nat.le_of_ble_eq_true rfl) (Nat.le_trans (m := 3) (Nat.le_of_ble_eq_true rfl) hd0) dX4_readNumber_23 (fun (v5 : Int) (S6 : jSt) (hv5 : R32 (v5)) => ?_)
    refine j_istore (lv' := [(4, 0, v5), (0, 2, a0), (1, 0, a1), (2, 0, a2), (3, 0, a3)]) dX4_readNumber_26 (Nat.le_of_ble_eq_true rfl) rfl ?_
    refine j_iload 0 dX4_readNumber_28 rfl ?_
    refine j_iload_n 3 dX4_readNumber_30 rfl rfl ?_
    refine j_iload_n 4 dX4_readNumber_31 rfl rfl ?_
    refine j_callSN (As := [(0, v5), (0, a2), (0, a3)]) (st := []) (host := RX11) kc_X11_within (c_X11_within v5 a2 a3 S6 hv5 h2 h3) (by decide +kernel) ks_X11_within rfl (Nat.le_of_ble_eq_true rfl) (Nat.le_trans (m := 3) (Nat.le_of_ble_eq_true rfl) hd0) dX4_readNumber_32 (fun (v7 : Int) (S8 : jSt) (hv7 : (v7) = 0 ∨ (v7) = 1) => ?_)
    refine j_if_ne (tgt := 44) (jZ_R hv7) dX4_readNumber_35 rfl (fun _ => ?_) (fun _ => ?_)
    · refine j_aload_n 1 dX4_readNumber_44 rfl rfl ?_
      refine j_getr (ci := 4) (k := 7) rfl in_X4 (Nat.le_of_ble_eq_true rfl) rfl rfl fl_X4_18 dX4_readNumber_45 (fun (v9 : Int) (hv9 : 0 ≤ v9) => ?_)
      refine j_aload_n 1 dX4_readNumber_48 rfl rfl ?_
      refine j_get (ci := 4) (k := 5) (t := 0) rfl in_X4 (Nat.le_of_ble_eq_true rfl) rfl rfl fl_X4_43 dX4_readNumber_49 (fun (v10 : Int) (hv10 : R32 (v10)) => ?_)
      refine j_iconst dX4_readNumber_52 ?_
      refine j_imul dX4_readNumber_53 ?_
      refine j_iload_n 2 dX4_readNumber_54 rfl rfl ?_
      refine j_iadd dX4_readNumber_55 ?_
      refine j_iload 0 dX4_readNumber_56 rfl ?_
      refine j_iastore (w32_R _) hv5 dX4_readNumber_58 (fun S11 => ?_)
      refine j_aload_n 1 dX4_readNumber_59 rfl rfl ?_
      refine j_dup dX4_readNumber_60 (fun h => nomatch h) ?_
      refine j_get (ci := 4) (k := 3) (t := 0) rfl in_X4 (Nat.le_of_ble_eq_true rfl) rfl rfl fl_X4_40 dX4_readNumber_61 (fun (v12 : Int) (hv12 : R32 (v12)) => ?_)
      refine j_iconst dX4_readNumber_64 ?_
      refine j_iadd dX4_readNumber_65 ?_
      refine j_puti (ci := 4) (k := 3) (ty0 := tyX4) rfl in_X4 (Nat.le_of_ble_eq_true rfl) rfl tyX4_ok nmX4 rfl rfl (by decide +kernel) (w32_R _) fl_X4_40 dX4_readNumber_66 (fun S13 => ?_)
      refine j_iconst dX4_readNumber_69 ?_
      exact j_zreturn jz1 dX4_readNumber_70
    · refine j_aload_n 1 dX4_readNumber_38 rfl rfl ?_
      refine j_iconst dX4_readNumber_39 ?_
      refine j_callV (ci := 4) (As := [(0, 2)]) (st := []) kc_X4_refuse (c_X4_refuse a0 2 S8 h0 (j_r32 2 rfl)) rfl lm_X4_84 ki_X4_refuse ke_X4_refuse rfl (Nat.le_of_ble_eq_true rfl) (Nat.le_trans (m := 3) (Nat.le_of_ble_eq_true rfl) hd0) dX4_readNumber_40 (fun (v14 : Int) (S15 : jSt) (hv14 : (v14) = 0 ∨ (v14) = 1) => ?_)
      exact j_zreturn hv14 dX4_readNumber_43
  · refine j_aload_n 0 dX4_readNumber_9 rfl rfl ?_
    refine j_iconst dX4_readNumber_10 ?_
    refine j_callV (ci := 4) (As := [(0, 1)]) (st := []) kc_X4_refuse (c_X4_refuse a0 1 S2 h0 (jZ_R jz1)) rfl lm_X4_84 ki_X4_refuse ke_X4_refuse rfl (Nat.le_of_ble_eq_true rfl) (Nat.le_trans (m := 3) (Nat.le_of_ble_eq_true rfl) hd0) dX4_readNumber_11 (fun (v16 : Int) (S17 : jSt) (hv16 : (v16) = 0 ∨ (v16) = 1) => ?_)
    exact j_zreturn hv16 dX4_readNumber_14
theorem c_X4_readNumber {G : jG} (a0 : Int) (a1 : Int) (a2 : Int) (a3 : Int) (S : jSt) (h0 : 0 ≤ (a0)) (h1 : R32 (a1)) (h2 : R32 (a2)) (h3 : R32 (a3)) : CT G yX4_readNumber cX4_readNumber 5 (some .boolean) 3 ([(2, a0), (0, a1), (0, a2), (0, a3)].map jval) S (f_X4_readNumber a0 a1 a2 a3 S) := ct_of [(2, a0), (0, a1), (0, a2), (0, a3)] (by decide) rfl (Nat.le_of_ble_eq_true rfl) (e_X4_readNumber (Nat.le_refl _) a0 a1 a2 a3 S h0 h1 h2 h3)
-- X4_readDeed
def f_X4_readDeed_b217 (x0 : Int) (S : jSt) : Option (Int × jSt) :=
  fcallv S x0 4 (f_X4_readNumber x0 1 0 11 S) (fun v3 S4 => some (v3, S4))
theorem p_f_X4_readDeed_b217 {G : jG} {d : Nat} {S0 : jSt} (hd0 : 4 ≤ d) : ∀ (x0 : Int) (S : jSt), (0 ≤ (x0)) → J G yX4_readDeed cX4_readDeed 2 (some .boolean) d S0 217 [(0, 2, x0)] [] S (f_X4_readDeed_b217  x0 S) := by
  intro x0 S h0
  unfold f_X4_readDeed_b217
  refine j_aload_n 0 dX4_readDeed_217 rfl rfl ?_
  refine j_iconst dX4_readDeed_218 ?_
  refine j_iconst dX4_readDeed_219 ?_
  refine j_bipush dX4_readDeed_220 (by decide) ?_
  refine j_callV (ci := 4) (As := [(0, 1), (0, 0), (0, 11)]) (st := []) kc_X4_readNumber (c_X4_readNumber x0 1 0 11 S h0 (jZ_R jz1) (jZ_R jz0) (j_r32 11 rfl)) rfl lm_X4_107 ki_X4_readNumber ke_X4_readNumber rfl (Nat.le_of_ble_eq_true rfl) (Nat.le_trans (m := 4) (Nat.le_of_ble_eq_true rfl) hd0) dX4_readDeed_222 (fun (v3 : Int) (S4 : jSt) (hv3 : (v3) = 0 ∨ (v3) = 1) => ?_)
  exact j_zreturn hv3 dX4_readDeed_225
def f_X4_readDeed_b207 (x0 : Int) (S : jSt) : Option (Int × jSt) :=
  some (x0, S)
theorem p_f_X4_readDeed_b207 {G : jG} {d : Nat} {S0 : jSt} (hd0 : 4 ≤ d) : ∀ (x0 : Int) (S : jSt), ((x0) = 0 ∨ (x0) = 1) → J G yX4_readDeed cX4_readDeed 2 (some .boolean) d S0 207 [] [(0, x0)] S (f_X4_readDeed_b207  x0 S) := by
  intro x0 S h0
  unfold f_X4_readDeed_b207
  exact j_zreturn h0 dX4_readDeed_207
def f_X4_readDeed_b206 (S : jSt) : Option (Int × jSt) :=
  f_X4_readDeed_b207 0 S
theorem p_f_X4_readDeed_b206 {G : jG} {d : Nat} {S0 : jSt} (hd0 : 4 ≤ d) : ∀ (S : jSt), J G yX4_readDeed cX4_readDeed 2 (some .boolean) d S0 206 [] [] S (f_X4_readDeed_b206   S) := by
  intro S
  unfold f_X4_readDeed_b206
  refine j_iconst dX4_readDeed_206 ?_
  exact p_f_X4_readDeed_b207 hd0 0 S jz0
def f_X4_readDeed_b103 (x0 : Int) (S : jSt) : Option (Int × jSt) :=
  some (x0, S)
theorem p_f_X4_readDeed_b103 {G : jG} {d : Nat} {S0 : jSt} (hd0 : 4 ≤ d) : ∀ (x0 : Int) (S : jSt), ((x0) = 0 ∨ (x0) = 1) → J G yX4_readDeed cX4_readDeed 2 (some .boolean) d S0 103 [] [(0, x0)] S (f_X4_readDeed_b103  x0 S) := by
  intro x0 S h0
  unfold f_X4_readDeed_b103
  exact j_zreturn h0 dX4_readDeed_103
def f_X4_readDeed_b102 (S : jSt) : Option (Int × jSt) :=
  f_X4_readDeed_b103 0 S
theorem p_f_X4_readDeed_b102 {G : jG} {d : Nat} {S0 : jSt} (hd0 : 4 ≤ d) : ∀ (S : jSt), J G yX4_readDeed cX4_readDeed 2 (some .boolean) d S0 102 [] [] S (f_X4_readDeed_b102   S) := by
  intro S
  unfold f_X4_readDeed_b102
  refine j_iconst dX4_readDeed_102 ?_
  exact p_f_X4_readDeed_b103 hd0 0 S jz0
def f_X4_readDeed_b169 (x0 : Int) (S : jSt) : Option (Int × jSt) :=
  some (x0, S)
theorem p_f_X4_readDeed_b169 {G : jG} {d : Nat} {S0 : jSt} (hd0 : 4 ≤ d) : ∀ (x0 : Int) (S : jSt), ((x0) = 0 ∨ (x0) = 1) → J G yX4_readDeed cX4_readDeed 2 (some .boolean) d S0 169 [] [(0, x0)] S (f_X4_readDeed_b169  x0 S) := by
  intro x0 S h0
  unfold f_X4_readDeed_b169
  exact j_zreturn h0 dX4_readDeed_169
def f_X4_readDeed_b168 (S : jSt) : Option (Int × jSt) :=
  f_X4_readDeed_b169 0 S
theorem p_f_X4_readDeed_b168 {G : jG} {d : Nat} {S0 : jSt} (hd0 : 4 ≤ d) : ∀ (S : jSt), J G yX4_readDeed cX4_readDeed 2 (some .boolean) d S0 168 [] [] S (f_X4_readDeed_b168   S) := by
  intro S
  unfold f_X4_readDeed_b168
  refine j_iconst dX4_readDeed_168 ?_
  exact p_f_X4_readDeed_b169 hd0 0 S jz0
def f_X4_readDeed (a0 : Int) (a1 : Int) (S : jSt) : Option (Int × jSt) :=
  if a1 = 4 then fcallv S a0 4 (f_X4_readNumber a0 1 0 9999 S) (fun v1 S2 => some (v1, S2)) else if a1 = 5 then f_X4_readDeed_b217 a0 S else if a1 = 6 then f_X4_readDeed_b217 a0 S else if a1 = 7 then f_X4_readDeed_b217 a0 S else if a1 = 8 then fcallv S a0 4 (f_X4_readNumber a0 1 0 11 S) (fun v5 S6 => if v5 = 0 then f_X4_readDeed_b206 S6 else fcallv S6 a0 4 (f_X4_readKind a0 20 S6) (fun v7 S8 => if v7 = 0 then f_X4_readDeed_b206 S8 else fcallv S8 a0 4 (f_X4_readNumber a0 2 0 999 S8) (fun v9 S10 => if v9 = 0 then f_X4_readDeed_b206 S10 else f_X4_readDeed_b207 1 S10))) else if a1 = 9 then fcallv S a0 4 (f_X4_readNumber a0 1 0 5 S) (fun v11 S12 => if v11 = 0 then f_X4_readDeed_b102 S12 else fcallv S12 a0 4 (f_X4_readKind a0 12 S12) (fun v13 S14 => if v13 = 0 then f_X4_readDeed_b102 S14 else fcallv S14 a0 4 (f_X4_readNumber a0 2 0 99 S14) (fun v15 S16 => if v15 = 0 then f_X4_readDeed_b102 S16 else fcallv S16 a0 4 (f_X4_readKind a0 13 S16) (fun v17 S18 => if v17 = 0 then f_X4_readDeed_b102 S18 else fcallv S18 a0 4 (f_X4_readNumber a0 3 1 9 S18) (fun v19 S20 => if v19 = 0 then f_X4_readDeed_b102 S20 else f_X4_readDeed_b103 1 S20))))) else if a1 = 10 then fcallv S a0 4 (f_X4_readNumber a0 1 0 99 S) (fun v21 S22 => if v21 = 0 then f_X4_readDeed_b168 S22 else fcallv S22 a0 4 (f_X4_readKind a0 18 S22) (fun v23 S24 => if v23 = 0 then f_X4_readDeed_b168 S24 else fcallv S24 a0 4 (f_X4_readNumber a0 2 0 11 S24) (fun v25 S26 => if v25 = 0 then f_X4_readDeed_b168 S26 else fcallv S26 a0 4 (f_X4_readKind a0 19 S26) (fun v27 S28 => if v27 = 0 then f_X4_readDeed_b168 S28 else fcallv S28 a0 4 (f_X4_readNumber a0 3 0 4 S28) (fun v29 S30 => if v29 = 0 then f_X4_readDeed_b168 S30 else f_X4_readDeed_b169 1 S30))))) else if a1 = 11 then fcallv S a0 4 (f_X4_readNumber a0 1 1 60 S) (fun v31 S32 => some (v31, S32)) else f_X4_readDeed_b217 a0 S
theorem e_X4_readDeed {G : jG} {d : Nat} {S0 : jSt} (hd0 : 4 ≤ d) (a0 : Int) (a1 : Int) (S : jSt) (h0 : 0 ≤ (a0)) (h1 : R32 (a1)) : J G yX4_readDeed cX4_readDeed 2 (some .boolean) d S0 0 [(0, 2, a0), (1, 0, a1)] [] S (f_X4_readDeed a0 a1 S) := by
  unfold f_X4_readDeed
  refine j_iload_n 1 dX4_readDeed_0 rfl rfl ?_
  refine j_ite (fun hc0 => ?_) (fun hc0 => ?_)
  · refine j_tableIn (tgt := 104) (off := 103) h1 dX4_readDeed_1 (by omega) (by omega) (by rw [hc0]; rfl) rfl ?_
    refine j_aload_n 0 dX4_readDeed_104 rfl rfl ?_
    refine j_iconst dX4_readDeed_105 ?_
    refine j_iconst dX4_readDeed_106 ?_
    refine j_sipush dX4_readDeed_107 (by decide) ?_
    refine j_callV (ci := 4) (As := [(0, 1), (0, 0), (0, 9999)]) (st := []) kc_X4_readNumber (c_X4_readNumber a0 1 0 9999 S h0 (jZ_R jz1) (jZ_R jz0) (j_r32 9999 rfl)) rfl lm_X4_107 ki_X4_readNumber ke_X4_readNumber rfl (Nat.le_of_ble_eq_true rfl) (Nat.le_trans (m := 4) (Nat.le_of_ble_eq_true rfl) hd0) dX4_readDeed_110 (fun (v1 : Int) (S2 : jSt) (hv1 : (v1) = 0 ∨ (v1) = 1) => ?_)
    exact j_zreturn hv1 dX4_readDeed_113
  refine j_ite (fun hc1 => ?_) (fun hc1 => ?_)
  · refine j_tableIn (tgt := 217) (off := 216) h1 dX4_readDeed_1 (by omega) (by omega) (by rw [hc1]; rfl) rfl ?_
    refine j_sub [0] rfl ?_
    exact p_f_X4_readDeed_b217 hd0 a0 S h0
  refine j_ite (fun hc2 => ?_) (fun hc2 => ?_)
  · refine j_tableIn (tgt := 217) (off := 216) h1 dX4_readDeed_1 (by omega) (by omega) (by rw [hc2]; rfl) rfl ?_
    refine j_sub [0] rfl ?_
    exact p_f_X4_readDeed_b217 hd0 a0 S h0
  refine j_ite (fun hc3 => ?_) (fun hc3 => ?_)
  · refine j_tableIn (tgt := 217) (off := 216) h1 dX4_readDeed_1 (by omega) (by omega) (by rw [hc3]; rfl) rfl ?_
    refine j_sub [0] rfl ?_
    exact p_f_X4_readDeed_b217 hd0 a0 S h0
  refine j_ite (fun hc4 => ?_) (fun hc4 => ?_)
  · refine j_tableIn (tgt := 170) (off := 169) h1 dX4_readDeed_1 (by omega) (by omega) (by rw [hc4]; rfl) rfl ?_
    refine j_aload_n 0 dX4_readDeed_170 rfl rfl ?_
    refine j_iconst dX4_readDeed_171 ?_
    refine j_iconst dX4_readDeed_172 ?_
    refine j_bipush dX4_readDeed_173 (by decide) ?_
    refine j_callV (ci := 4) (As := [(0, 1), (0, 0), (0, 11)]) (st := []) kc_X4_readNumber (c_X4_readNumber a0 1 0 11 S h0 (jZ_R jz1) (jZ_R jz0) (j_r32 11 rfl)) rfl lm_X4_107 ki_X4_readNumber ke_X4_readNumber rfl (Nat.le_of_ble_eq_true rfl) (Nat.le_trans (m := 4) (Nat.le_of_ble_eq_true rfl) hd0) dX4_readDeed_175 (fun (v5 : Int) (S6 : jSt) (hv5 : (v5) = 0 ∨ (v5) = 1) => ?_)
    refine j_if_eq (tgt := 206) (jZ_R hv5) dX4_readDeed_178 rfl (fun _ => ?_) (fun _ => ?_)
    · refine j_sub [] rfl ?_
      exact p_f_X4_readDeed_b206 hd0 S6
    · refine j_aload_n 0 dX4_readDeed_181 rfl rfl ?_
      refine j_bipush dX4_readDeed_182 (by decide) ?_
      refine j_callV (ci := 4) (As := [(0, 20)]) (st := []) kc_X4_readKind (c_X4_readKind a0 20 S6 h0 (j_r32 20 rfl)) rfl lm_X4_98 ki_X4_readKind ke_X4_readKind rfl (Nat.le_of_ble_eq_true rfl) (Nat.le_trans (m := 4) (Nat.le_of_ble_eq_true rfl) hd0) dX4_readDeed_184 (fun (v7 : Int) (S8 : jSt) (hv7 : (v7) = 0 ∨ (v7) = 1) => ?_)
      refine j_if_eq (tgt := 206) (jZ_R hv7) dX4_readDeed_187 rfl (fun _ => ?_) (fun _ => ?_)
      · refine j_sub [] rfl ?_
        exact p_f_X4_readDeed_b206 hd0 S8
      · refine j_aload_n 0 dX4_readDeed_190 rfl rfl ?_
        refine j_iconst dX4_readDeed_191 ?_
        refine j_iconst dX4_readDeed_192 ?_
        refine j_sipush dX4_readDeed_193 (by decide) ?_
        refine j_callV (ci := 4) (As := [(0, 2), (0, 0), (0, 999)]) (st := []) kc_X4_readNumber (c_X4_readNumber a0 2 0 999 S8 h0 (j_r32 2 rfl) (jZ_R jz0) (j_r32 999 rfl)) rfl lm_X4_107 ki_X4_readNumber ke_X4_readNumber rfl (Nat.le_of_ble_eq_true rfl) (Nat.le_trans (m := 4) (Nat.le_of_ble_eq_true rfl) hd0) dX4_readDeed_196 (fun (v9 : Int) (S10 : jSt) (hv9 : (v9) = 0 ∨ (v9) = 1) => ?_)
        refine j_if_eq (tgt := 206) (jZ_R hv9) dX4_readDeed_199 rfl (fun _ => ?_) (fun _ => ?_)
        · refine j_sub [] rfl ?_
          exact p_f_X4_readDeed_b206 hd0 S10
        · refine j_iconst dX4_readDeed_202 ?_
          refine j_goto (tgt := 207) dX4_readDeed_203 rfl ?_
          refine j_sub [] rfl ?_
          exact p_f_X4_readDeed_b207 hd0 1 S10 jz1
  refine j_ite (fun hc5 => ?_) (fun hc5 => ?_)
  · refine j_tableIn (tgt := 48) (off := 47) h1 dX4_readDeed_1 (by omega) (by omega) (by rw [hc5]; rfl) rfl ?_
    refine j_aload_n 0 dX4_readDeed_48 rfl rfl ?_
    refine j_iconst dX4_readDeed_49 ?_
    refine j_iconst dX4_readDeed_50 ?_
    refine j_iconst dX4_readDeed_51 ?_
    refine j_callV (ci := 4) (As := [(0, 1), (0, 0), (0, 5)]) (st := []) kc_X4_readNumber (c_X4_readNumber a0 1 0 5 S h0 (jZ_R jz1) (jZ_R jz0) (j_r32 5 rfl)) rfl lm_X4_107 ki_X4_readNumber ke_X4_readNumber rfl (Nat.le_of_ble_eq_true rfl) (Nat.le_trans (m := 4) (Nat.le_of_ble_eq_true rfl) hd0) dX4_readDeed_52 (fun (v11 : Int) (S12 : jSt) (hv11 : (v11) = 0 ∨ (v11) = 1) => ?_)
    refine j_if_eq (tgt := 102) (jZ_R hv11) dX4_readDeed_55 rfl (fun _ => ?_) (fun _ => ?_)
    · refine j_sub [] rfl ?_
      exact p_f_X4_readDeed_b102 hd0 S12
    · refine j_aload_n 0 dX4_readDeed_58 rfl rfl ?_
      refine j_bipush dX4_readDeed_59 (by decide) ?_
      refine j_callV (ci := 4) (As := [(0, 12)]) (st := []) kc_X4_readKind (c_X4_readKind a0 12 S12 h0 (j_r32 12 rfl)) rfl lm_X4_98 ki_X4_readKind ke_X4_readKind rfl (Nat.le_of_ble_eq_true rfl) (Nat.le_trans (m := 4) (Nat.le_of_ble_eq_true rfl) hd0) dX4_readDeed_61 (fun (v13 : Int) (S14 : jSt) (hv13 : (v13) = 0 ∨ (v13) = 1) => ?_)
      refine j_if_eq (tgt := 102) (jZ_R hv13) dX4_readDeed_64 rfl (fun _ => ?_) (fun _ => ?_)
      · refine j_sub [] rfl ?_
        exact p_f_X4_readDeed_b102 hd0 S14
      · refine j_aload_n 0 dX4_readDeed_67 rfl rfl ?_
        refine j_iconst dX4_readDeed_68 ?_
        refine j_iconst dX4_readDeed_69 ?_
        refine j_bipush dX4_readDeed_70 (by decide) ?_
        refine j_callV (ci := 4) (As := [(0, 2), (0, 0), (0, 99)]) (st := []) kc_X4_readNumber (c_X4_readNumber a0 2 0 99 S14 h0 (j_r32 2 rfl) (jZ_R jz0) (j_r32 99 rfl)) rfl lm_X4_107 ki_X4_readNumber ke_X4_readNumber rfl (Nat.le_of_ble_eq_true rfl) (Nat.le_trans (m := 4) (Nat.le_of_ble_eq_true rfl) hd0) dX4_readDeed_72 (fun (v15 : Int) (S16 : jSt) (hv15 : (v15) = 0 ∨ (v15) = 1) => ?_)
        refine j_if_eq (tgt := 102) (jZ_R hv15) dX4_readDeed_75 rfl (fun _ => ?_) (fun _ => ?_)
        · refine j_sub [] rfl ?_
          exact p_f_X4_readDeed_b102 hd0 S16
        · refine j_aload_n 0 dX4_readDeed_78 rfl rfl ?_
          refine j_bipush dX4_readDeed_79 (by decide) ?_
          refine j_callV (ci := 4) (As := [(0, 13)]) (st := []) kc_X4_readKind (c_X4_readKind a0 13 S16 h0 (j_r32 13 rfl)) rfl lm_X4_98 ki_X4_readKind ke_X4_readKind rfl (Nat.le_of_ble_eq_true rfl) (Nat.le_trans (m := 4) (Nat.le_of_ble_eq_true rfl) hd0) dX4_readDeed_81 (fun (v17 : Int) (S18 : jSt) (hv17 : (v17) = 0 ∨ (v17) = 1) => ?_)
          refine j_if_eq (tgt := 102) (jZ_R hv17) dX4_readDeed_84 rfl (fun _ => ?_) (fun _ => ?_)
          · refine j_sub [] rfl ?_
            exact p_f_X4_readDeed_b102 hd0 S18
          · refine j_aload_n 0 dX4_readDeed_87 rfl rfl ?_
            refine j_iconst dX4_readDeed_88 ?_
            refine j_iconst dX4_readDeed_89 ?_
            refine j_bipush dX4_readDeed_90 (by decide) ?_
            refine j_callV (ci := 4) (As := [(0, 3), (0, 1), (0, 9)]) (st := []) kc_X4_readNumber (c_X4_readNumber a0 3 1 9 S18 h0 (j_r32 3 rfl) (jZ_R jz1) (j_r32 9 rfl)) rfl lm_X4_107 ki_X4_readNumber ke_X4_readNumber rfl (Nat.le_of_ble_eq_true rfl) (Nat.le_trans (m := 4) (Nat.le_of_ble_eq_true rfl) hd0) dX4_readDeed_92 (fun (v19 : Int) (S20 : jSt) (hv19 : (v19) = 0 ∨ (v19) = 1) => ?_)
            refine j_if_eq (tgt := 102) (jZ_R hv19) dX4_readDeed_95 rfl (fun _ => ?_) (fun _ => ?_)
            · refine j_sub [] rfl ?_
              exact p_f_X4_readDeed_b102 hd0 S20
            · refine j_iconst dX4_readDeed_98 ?_
              refine j_goto (tgt := 103) dX4_readDeed_99 rfl ?_
              refine j_sub [] rfl ?_
              exact p_f_X4_readDeed_b103 hd0 1 S20 jz1
  refine j_ite (fun hc6 => ?_) (fun hc6 => ?_)
  · refine j_tableIn (tgt := 114) (off := 113) h1 dX4_readDeed_1 (by omega) (by omega) (by rw [hc6]; rfl) rfl ?_
    refine j_aload_n 0 dX4_readDeed_114 rfl rfl ?_
    refine j_iconst dX4_readDeed_115 ?_
    refine j_iconst dX4_readDeed_116 ?_
    refine j_bipush dX4_readDeed_117 (by decide) ?_
    refine j_callV (ci := 4) (As := [(0, 1), (0, 0), (0, 99)]) (st := []) kc_X4_readNumber (c_X4_readNumber a0 1 0 99 S h0 (jZ_R jz1) (jZ_R jz0) (j_r32 99 rfl)) rfl lm_X4_107 ki_X4_readNumber ke_X4_readNumber rfl (Nat.le_of_ble_eq_true rfl) (Nat.le_trans (m := 4) (Nat.le_of_ble_eq_true rfl) hd0) dX4_readDeed_119 (fun (v21 : Int) (S22 : jSt) (hv21 : (v21) = 0 ∨ (v21) = 1) => ?_)
    refine j_if_eq (tgt := 168) (jZ_R hv21) dX4_readDeed_122 rfl (fun _ => ?_) (fun _ => ?_)
    · refine j_sub [] rfl ?_
      exact p_f_X4_readDeed_b168 hd0 S22
    · refine j_aload_n 0 dX4_readDeed_125 rfl rfl ?_
      refine j_bipush dX4_readDeed_126 (by decide) ?_
      refine j_callV (ci := 4) (As := [(0, 18)]) (st := []) kc_X4_readKind (c_X4_readKind a0 18 S22 h0 (j_r32 18 rfl)) rfl lm_X4_98 ki_X4_readKind ke_X4_readKind rfl (Nat.le_of_ble_eq_true rfl) (Nat.le_trans (m := 4) (Nat.le_of_ble_eq_true rfl) hd0) dX4_readDeed_128 (fun (v23 : Int) (S24 : jSt) (hv23 : (v23) = 0 ∨ (v23) = 1) => ?_)
      refine j_if_eq (tgt := 168) (jZ_R hv23) dX4_readDeed_131 rfl (fun _ => ?_) (fun _ => ?_)
      · refine j_sub [] rfl ?_
        exact p_f_X4_readDeed_b168 hd0 S24
      · refine j_aload_n 0 dX4_readDeed_134 rfl rfl ?_
        refine j_iconst dX4_readDeed_135 ?_
        refine j_iconst dX4_readDeed_136 ?_
        refine j_bipush dX4_readDeed_137 (by decide) ?_
        refine j_callV (ci := 4) (As := [(0, 2), (0, 0), (0, 11)]) (st := []) kc_X4_readNumber (c_X4_readNumber a0 2 0 11 S24 h0 (j_r32 2 rfl) (jZ_R jz0) (j_r32 11 rfl)) rfl lm_X4_107 ki_X4_readNumber ke_X4_readNumber rfl (Nat.le_of_ble_eq_true rfl) (Nat.le_trans (m := 4) (Nat.le_of_ble_eq_true rfl) hd0) dX4_readDeed_139 (fun (v25 : Int) (S26 : jSt) (hv25 : (v25) = 0 ∨ (v25) = 1) => ?_)
        refine j_if_eq (tgt := 168) (jZ_R hv25) dX4_readDeed_142 rfl (fun _ => ?_) (fun _ => ?_)
        · refine j_sub [] rfl ?_
          exact p_f_X4_readDeed_b168 hd0 S26
        · refine j_aload_n 0 dX4_readDeed_145 rfl rfl ?_
          refine j_bipush dX4_readDeed_146 (by decide) ?_
          refine j_callV (ci := 4) (As := [(0, 19)]) (st := []) kc_X4_readKind (c_X4_readKind a0 19 S26 h0 (j_r32 19 rfl)) rfl lm_X4_98 ki_X4_readKind ke_X4_readKind rfl (Nat.le_of_ble_eq_true rfl) (Nat.le_trans (m := 4) (Nat.le_of_ble_eq_true rfl) hd0) dX4_readDeed_148 (fun (v27 : Int) (S28 : jSt) (hv27 : (v27) = 0 ∨ (v27) = 1) => ?_)
          refine j_if_eq (tgt := 168) (jZ_R hv27) dX4_readDeed_151 rfl (fun _ => ?_) (fun _ => ?_)
          · refine j_sub [] rfl ?_
            exact p_f_X4_readDeed_b168 hd0 S28
          · refine j_aload_n 0 dX4_readDeed_154 rfl rfl ?_
            refine j_iconst dX4_readDeed_155 ?_
            refine j_iconst dX4_readDeed_156 ?_
            refine j_iconst dX4_readDeed_157 ?_
            refine j_callV (ci := 4) (As := [(0, 3), (0, 0), (0, 4)]) (st := []) kc_X4_readNumber (c_X4_readNumber a0 3 0 4 S28 h0 (j_r32 3 rfl) (jZ_R jz0) (j_r32 4 rfl)) rfl lm_X4_107 ki_X4_readNumber ke_X4_readNumber rfl (Nat.le_of_ble_eq_true rfl) (Nat.le_trans (m := 4) (Nat.le_of_ble_eq_true rfl) hd0) dX4_readDeed_158 (fun (v29 : Int) (S30 : jSt) (hv29 : (v29) = 0 ∨ (v29) = 1) => ?_)
            refine j_if_eq (tgt := 168) (jZ_R hv29) dX4_readDeed_161 rfl (fun _ => ?_) (fun _ => ?_)
            · refine j_sub [] rfl ?_
              exact p_f_X4_readDeed_b168 hd0 S30
            · refine j_iconst dX4_readDeed_164 ?_
              refine j_goto (tgt := 169) dX4_readDeed_165 rfl ?_
              refine j_sub [] rfl ?_
              exact p_f_X4_readDeed_b169 hd0 1 S30 jz1
  refine j_ite (fun hc7 => ?_) (fun hc7 => ?_)
  · refine j_tableIn (tgt := 208) (off := 207) h1 dX4_readDeed_1 (by omega) (by omega) (by rw [hc7]; rfl) rfl ?_
    refine j_aload_n 0 dX4_readDeed_208 rfl rfl ?_
    refine j_iconst dX4_readDeed_209 ?_
    refine j_iconst dX4_readDeed_210 ?_
    refine j_bipush dX4_readDeed_211 (by decide) ?_
    refine j_callV (ci := 4) (As := [(0, 1), (0, 1), (0, 60)]) (st := []) kc_X4_readNumber (c_X4_readNumber a0 1 1 60 S h0 (jZ_R jz1) (jZ_R jz1) (j_r32 60 rfl)) rfl lm_X4_107 ki_X4_readNumber ke_X4_readNumber rfl (Nat.le_of_ble_eq_true rfl) (Nat.le_trans (m := 4) (Nat.le_of_ble_eq_true rfl) hd0) dX4_readDeed_213 (fun (v31 : Int) (S32 : jSt) (hv31 : (v31) = 0 ∨ (v31) = 1) => ?_)
    exact j_zreturn hv31 dX4_readDeed_216
  refine j_tableOut (tgt := 217) h1 dX4_readDeed_1 (by omega) rfl ?_
  refine j_sub [0] rfl ?_
  exact p_f_X4_readDeed_b217 hd0 a0 S h0
theorem c_X4_readDeed {G : jG} (a0 : Int) (a1 : Int) (S : jSt) (h0 : 0 ≤ (a0)) (h1 : R32 (a1)) : CT G yX4_readDeed cX4_readDeed 2 (some .boolean) 4 ([(2, a0), (0, a1)].map jval) S (f_X4_readDeed a0 a1 S) := ct_of [(2, a0), (0, a1)] (by decide) rfl (Nat.le_of_ble_eq_true rfl) (e_X4_readDeed (Nat.le_refl _) a0 a1 S h0 h1)
-- X4_emit
def f_X4_emit_b38 (S : jSt) : Option (Int × jSt) :=
  some (1, S)
theorem p_f_X4_emit_b38 {G : jG} {d : Nat} {S0 : jSt} (hd0 : 1 ≤ d) : ∀ (S : jSt), J G yX4_emit cX4_emit 3 (some .boolean) d S0 38 [] [] S (f_X4_emit_b38   S) := by
  intro S
  unfold f_X4_emit_b38
  refine j_iconst dX4_emit_38 ?_
  exact j_zreturn jz1 dX4_emit_39
def f_X4_emit (a0 : Int) (a1 : Int) (a2 : Int) (S : jSt) : Option (Int × jSt) :=
  fget S a0 4 6 (fun v1 => fgetr S a0 4 8 (fun v2 => flen S v2 1 (fun v3 => if v3 ≤ v1 then f_X4_emit_b38 S else fgetr S a0 4 8 (fun v4 => fget S a0 4 6 (fun v5 => fast S v4 v5 1 (w32 ((w32 (a1 * 16384)) + a2)) (fun S6 => fget S6 a0 4 6 (fun v7 => fput S6 a0 4 6 (w32 (v7 + 1)) (fun S8 => f_X4_emit_b38 S8))))))))
theorem e_X4_emit {G : jG} {d : Nat} {S0 : jSt} (hd0 : 1 ≤ d) (a0 : Int) (a1 : Int) (a2 : Int) (S : jSt) (h0 : 0 ≤ (a0)) (h1 : R32 (a1)) (h2 : R32 (a2)) : J G yX4_emit cX4_emit 3 (some .boolean) d S0 0 [(0, 2, a0), (1, 0, a1), (2, 0, a2)] [] S (f_X4_emit a0 a1 a2 S) := by
  unfold f_X4_emit
  refine j_aload_n 0 dX4_emit_0 rfl rfl ?_
  refine j_get (ci := 4) (k := 6) (t := 0) rfl in_X4 (Nat.le_of_ble_eq_true rfl) rfl rfl fl_X4_46 dX4_emit_1 (fun (v1 : Int) (hv1 : R32 (v1)) => ?_)
  refine j_aload_n 0 dX4_emit_4 rfl rfl ?_
  refine j_getr (ci := 4) (k := 8) rfl in_X4 (Nat.le_of_ble_eq_true rfl) rfl rfl fl_X4_22 dX4_emit_5 (fun (v2 : Int) (hv2 : 0 ≤ v2) => ?_)
  refine j_alen dX4_emit_8 (fun (v3 : Int) (hv3 : R32 v3) => ?_)
  refine j_icmp_ge (tgt := 38) hv1 hv3 dX4_emit_9 rfl (fun _ => ?_) (fun _ => ?_)
  · refine j_sub [] rfl ?_
    exact p_f_X4_emit_b38 hd0 S
  · refine j_aload_n 0 dX4_emit_12 rfl rfl ?_
    refine j_getr (ci := 4) (k := 8) rfl in_X4 (Nat.le_of_ble_eq_true rfl) rfl rfl fl_X4_22 dX4_emit_13 (fun (v4 : Int) (hv4 : 0 ≤ v4) => ?_)
    refine j_aload_n 0 dX4_emit_16 rfl rfl ?_
    refine j_get (ci := 4) (k := 6) (t := 0) rfl in_X4 (Nat.le_of_ble_eq_true rfl) rfl rfl fl_X4_46 dX4_emit_17 (fun (v5 : Int) (hv5 : R32 (v5)) => ?_)
    refine j_iload_n 1 dX4_emit_20 rfl rfl ?_
    refine j_sipush dX4_emit_21 (by decide) ?_
    refine j_imul dX4_emit_24 ?_
    refine j_iload_n 2 dX4_emit_25 rfl rfl ?_
    refine j_iadd dX4_emit_26 ?_
    refine j_iastore hv5 (w32_R _) dX4_emit_27 (fun S6 => ?_)
    refine j_aload_n 0 dX4_emit_28 rfl rfl ?_
    refine j_dup dX4_emit_29 (fun h => nomatch h) ?_
    refine j_get (ci := 4) (k := 6) (t := 0) rfl in_X4 (Nat.le_of_ble_eq_true rfl) rfl rfl fl_X4_46 dX4_emit_30 (fun (v7 : Int) (hv7 : R32 (v7)) => ?_)
    refine j_iconst dX4_emit_33 ?_
    refine j_iadd dX4_emit_34 ?_
    refine j_puti (ci := 4) (k := 6) (ty0 := tyX4) rfl in_X4 (Nat.le_of_ble_eq_true rfl) rfl tyX4_ok nmX4 rfl rfl (by decide +kernel) (w32_R _) fl_X4_46 dX4_emit_35 (fun S8 => ?_)
    refine j_sub [] rfl ?_
    exact p_f_X4_emit_b38 hd0 S8
theorem c_X4_emit {G : jG} (a0 : Int) (a1 : Int) (a2 : Int) (S : jSt) (h0 : 0 ≤ (a0)) (h1 : R32 (a1)) (h2 : R32 (a2)) : CT G yX4_emit cX4_emit 3 (some .boolean) 1 ([(2, a0), (0, a1), (0, a2)].map jval) S (f_X4_emit a0 a1 a2 S) := ct_of [(2, a0), (0, a1), (0, a2)] (by decide) rfl (Nat.le_of_ble_eq_true rfl) (e_X4_emit (Nat.le_refl _) a0 a1 a2 S h0 h1 h2)
-- X4_aim
def f_X4_aim_b28 (S : jSt) : Option (Int × jSt) :=
  some (0, S)
theorem p_f_X4_aim_b28 {G : jG} {d : Nat} {S0 : jSt} (hd0 : 2 ≤ d) : ∀ (S : jSt), J G yX4_aim cX4_aim 2 none d S0 28 [] [] S (f_X4_aim_b28   S) := by
  intro S
  unfold f_X4_aim_b28
  exact j_return dX4_aim_28
def f_X4_aim (a0 : Int) (a1 : Int) (S : jSt) : Option (Int × jSt) :=
  fgetr S a0 4 8 (fun v1 => flen S v1 1 (fun v2 => fcall (f_X11_within a1 0 (w32 (v2 - 1)) S) (fun v3 S4 => if v3 = 0 then f_X4_aim_b28 S4 else fgetr S4 a0 4 8 (fun v5 => fald S4 v5 a1 1 (fun v6 => fget S4 a0 4 6 (fun v7 => fast S4 v5 a1 1 (w32 (v6 + v7)) (fun S8 => f_X4_aim_b28 S8)))))))
theorem e_X4_aim {G : jG} {d : Nat} {S0 : jSt} (hd0 : 2 ≤ d) (a0 : Int) (a1 : Int) (S : jSt) (h0 : 0 ≤ (a0)) (h1 : R32 (a1)) : J G yX4_aim cX4_aim 2 none d S0 0 [(0, 2, a0), (1, 0, a1)] [] S (f_X4_aim a0 a1 S) := by
  unfold f_X4_aim
  refine j_iload_n 1 dX4_aim_0 rfl rfl ?_
  refine j_iconst dX4_aim_1 ?_
  refine j_aload_n 0 dX4_aim_2 rfl rfl ?_
  refine j_getr (ci := 4) (k := 8) rfl in_X4 (Nat.le_of_ble_eq_true rfl) rfl rfl fl_X4_22 dX4_aim_3 (fun (v1 : Int) (hv1 : 0 ≤ v1) => ?_)
  refine j_alen dX4_aim_6 (fun (v2 : Int) (hv2 : R32 v2) => ?_)
  refine j_iconst dX4_aim_7 ?_
  refine j_isub dX4_aim_8 ?_
  refine j_callSN (As := [(0, a1), (0, 0), (0, w32 (v2 - 1))]) (st := []) (host := RX11) kc_X11_within (c_X11_within a1 0 (w32 (v2 - 1)) S h1 (jZ_R jz0) (w32_R _)) (by decide +kernel) ks_X11_within rfl (Nat.le_of_ble_eq_true rfl) (Nat.le_trans (m := 2) (Nat.le_of_ble_eq_true rfl) hd0) dX4_aim_9 (fun (v3 : Int) (S4 : jSt) (hv3 : (v3) = 0 ∨ (v3) = 1) => ?_)
  refine j_if_eq (tgt := 28) (jZ_R hv3) dX4_aim_12 rfl (fun _ => ?_) (fun _ => ?_)
  · refine j_sub [] rfl ?_
    exact p_f_X4_aim_b28 hd0 S4
  · refine j_aload_n 0 dX4_aim_15 rfl rfl ?_
    refine j_getr (ci := 4) (k := 8) rfl in_X4 (Nat.le_of_ble_eq_true rfl) rfl rfl fl_X4_22 dX4_aim_16 (fun (v5 : Int) (hv5 : 0 ≤ v5) => ?_)
    refine j_iload_n 1 dX4_aim_19 rfl rfl ?_
    refine j_dup2 dX4_aim_20 (fun h => nomatch h) (fun h => nomatch h) ?_
    refine j_iaload h1 dX4_aim_21 (fun (v6 : Int) (hv6 : R32 (v6)) => ?_)
    refine j_aload_n 0 dX4_aim_22 rfl rfl ?_
    refine j_get (ci := 4) (k := 6) (t := 0) rfl in_X4 (Nat.le_of_ble_eq_true rfl) rfl rfl fl_X4_46 dX4_aim_23 (fun (v7 : Int) (hv7 : R32 (v7)) => ?_)
    refine j_iadd dX4_aim_26 ?_
    refine j_iastore h1 (w32_R _) dX4_aim_27 (fun S8 => ?_)
    refine j_sub [] rfl ?_
    exact p_f_X4_aim_b28 hd0 S8
theorem c_X4_aim {G : jG} (a0 : Int) (a1 : Int) (S : jSt) (h0 : 0 ≤ (a0)) (h1 : R32 (a1)) : CT G yX4_aim cX4_aim 2 none 2 ([(2, a0), (0, a1)].map jval) S (f_X4_aim a0 a1 S) := ct_of [(2, a0), (0, a1)] (by decide) rfl (Nat.le_of_ble_eq_true rfl) (e_X4_aim (Nat.le_refl _) a0 a1 S h0 h1)
-- X4_readName
def f_X4_readName_b48 (x0 : Int) (x1 : Int) (S : jSt) : Option (Int × jSt) :=
  fget S x0 4 3 (fun v1 => fput S x0 4 3 (w32 (v1 + 1)) (fun S2 => fcallv S2 x0 4 (f_X4_emit x0 x1 0 S2) (fun v3 S4 => some (v3, S4))))
theorem p_f_X4_readName_b48 {G : jG} {d : Nat} {S0 : jSt} (hd0 : 3 ≤ d) : ∀ (x0 : Int) (x1 : Int) (S : jSt), (0 ≤ (x0)) → (R32 (x1)) → J G yX4_readName cX4_readName 3 (some .boolean) d S0 48 [(0, 2, x0), (1, 0, x1)] [] S (f_X4_readName_b48  x0 x1 S) := by
  intro x0 x1 S h0 h1
  unfold f_X4_readName_b48
  refine j_aload_n 0 dX4_readName_48 rfl rfl ?_
  refine j_dup dX4_readName_49 (fun h => nomatch h) ?_
  refine j_get (ci := 4) (k := 3) (t := 0) rfl in_X4 (Nat.le_of_ble_eq_true rfl) rfl rfl fl_X4_40 dX4_readName_50 (fun (v1 : Int) (hv1 : R32 (v1)) => ?_)
  refine j_iconst dX4_readName_53 ?_
  refine j_iadd dX4_readName_54 ?_
  refine j_puti (ci := 4) (k := 3) (ty0 := tyX4) rfl in_X4 (Nat.le_of_ble_eq_true rfl) rfl tyX4_ok nmX4 rfl rfl (by decide +kernel) (w32_R _) fl_X4_40 dX4_readName_55 (fun S2 => ?_)
  refine j_aload_n 0 dX4_readName_58 rfl rfl ?_
  refine j_iload_n 1 dX4_readName_59 rfl rfl ?_
  refine j_iconst dX4_readName_60 ?_
  refine j_callV (ci := 4) (As := [(0, x1), (0, 0)]) (st := []) kc_X4_emit (c_X4_emit x0 x1 0 S2 h0 h1 (jZ_R jz0)) rfl lm_X4_116 ki_X4_emit ke_X4_emit rfl (Nat.le_of_ble_eq_true rfl) (Nat.le_trans (m := 3) (Nat.le_of_ble_eq_true rfl) hd0) dX4_readName_61 (fun (v3 : Int) (S4 : jSt) (hv3 : (v3) = 0 ∨ (v3) = 1) => ?_)
  exact j_zreturn hv3 dX4_readName_64
def f_X4_readName_b29 (x0 : Int) (x1 : Int) (x2 : Int) (S : jSt) : Option (Int × jSt) :=
  if x2 = 0 then f_X4_readName_b48 x0 x1 S else fget S x0 4 4 (fun v5 => if v5 = 1 then f_X4_readName_b48 x0 x1 S else fcallv S x0 4 (f_X4_refuse x0 5 S) (fun v6 S7 => some (v6, S7)))
theorem p_f_X4_readName_b29 {G : jG} {d : Nat} {S0 : jSt} (hd0 : 3 ≤ d) : ∀ (x0 : Int) (x1 : Int) (x2 : Int) (S : jSt), (0 ≤ (x0)) → (R32 (x1)) → ((x2) = 0 ∨ (x2) = 1) → J G yX4_readName cX4_readName 3 (some .boolean) d S0 29 [(0, 2, x0), (1, 0, x1)] [(0, x2)] S (f_X4_readName_b29  x0 x1 x2 S) := by
  intro x0 x1 x2 S h0 h1 h2
  unfold f_X4_readName_b29
  refine j_istore_n (lv' := [(2, 0, x2), (0, 2, x0), (1, 0, x1)]) dX4_readName_29 rfl (Nat.le_of_ble_eq_true rfl) rfl ?_
  refine j_iload_n 0 dX4_readName_30 rfl rfl ?_
  refine j_if_eq (tgt := 48) (jZ_R h2) dX4_readName_31 rfl (fun _ => ?_) (fun _ => ?_)
  · refine j_sub [1, 2] rfl ?_
    exact p_f_X4_readName_b48 hd0 x0 x1 S h0 h1
  · refine j_aload_n 1 dX4_readName_34 rfl rfl ?_
    refine j_get (ci := 4) (k := 4) (t := 0) rfl in_X4 (Nat.le_of_ble_eq_true rfl) rfl rfl fl_X4_101 dX4_readName_35 (fun (v5 : Int) (hv5 : R32 (v5)) => ?_)
    refine j_iconst dX4_readName_38 ?_
    refine j_icmp_eq (tgt := 48) hv5 (jZ_R jz1) dX4_readName_39 rfl (fun _ => ?_) (fun _ => ?_)
    · refine j_sub [1, 2] rfl ?_
      exact p_f_X4_readName_b48 hd0 x0 x1 S h0 h1
    · refine j_aload_n 1 dX4_readName_42 rfl rfl ?_
      refine j_iconst dX4_readName_43 ?_
      refine j_callV (ci := 4) (As := [(0, 5)]) (st := []) kc_X4_refuse (c_X4_refuse x0 5 S h0 (j_r32 5 rfl)) rfl lm_X4_84 ki_X4_refuse ke_X4_refuse rfl (Nat.le_of_ble_eq_true rfl) (Nat.le_trans (m := 3) (Nat.le_of_ble_eq_true rfl) hd0) dX4_readName_44 (fun (v6 : Int) (S7 : jSt) (hv6 : (v6) = 0 ∨ (v6) = 1) => ?_)
      exact j_zreturn hv6 dX4_readName_47
def f_X4_readName_b24 (x0 : Int) (x1 : Int) (S : jSt) : Option (Int × jSt) :=
  f_X4_readName_b29 x0 x1 1 S
theorem p_f_X4_readName_b24 {G : jG} {d : Nat} {S0 : jSt} (hd0 : 3 ≤ d) : ∀ (x0 : Int) (x1 : Int) (S : jSt), (0 ≤ (x0)) → (R32 (x1)) → J G yX4_readName cX4_readName 3 (some .boolean) d S0 24 [(0, 2, x0), (1, 0, x1)] [] S (f_X4_readName_b24  x0 x1 S) := by
  intro x0 x1 S h0 h1
  unfold f_X4_readName_b24
  refine j_iconst dX4_readName_24 ?_
  refine j_goto (tgt := 29) dX4_readName_25 rfl ?_
  exact p_f_X4_readName_b29 hd0 x0 x1 1 S h0 h1 jz1
def f_X4_readName (a0 : Int) (a1 : Int) (S : jSt) : Option (Int × jSt) :=
  if a1 = 10 then f_X4_readName_b24 a0 a1 S else if a1 = 15 then f_X4_readName_b24 a0 a1 S else if a1 = 16 then f_X4_readName_b24 a0 a1 S else if a1 = 17 then f_X4_readName_b24 a0 a1 S else f_X4_readName_b29 a0 a1 0 S
theorem e_X4_readName {G : jG} {d : Nat} {S0 : jSt} (hd0 : 3 ≤ d) (a0 : Int) (a1 : Int) (S : jSt) (h0 : 0 ≤ (a0)) (h1 : R32 (a1)) : J G yX4_readName cX4_readName 3 (some .boolean) d S0 0 [(0, 2, a0), (1, 0, a1)] [] S (f_X4_readName a0 a1 S) := by
  unfold f_X4_readName
  refine j_iload_n 1 dX4_readName_0 rfl rfl ?_
  refine j_bipush dX4_readName_1 (by decide) ?_
  refine j_icmp_eq (tgt := 24) h1 (j_r32 10 rfl) dX4_readName_3 rfl (fun _ => ?_) (fun _ => ?_)
  · exact p_f_X4_readName_b24 hd0 a0 a1 S h0 h1
  · refine j_iload_n 1 dX4_readName_6 rfl rfl ?_
    refine j_bipush dX4_readName_7 (by decide) ?_
    refine j_icmp_eq (tgt := 24) h1 (j_r32 15 rfl) dX4_readName_9 rfl (fun _ => ?_) (fun _ => ?_)
    · exact p_f_X4_readName_b24 hd0 a0 a1 S h0 h1
    · refine j_iload_n 1 dX4_readName_12 rfl rfl ?_
      refine j_bipush dX4_readName_13 (by decide) ?_
      refine j_icmp_eq (tgt := 24) h1 (j_r32 16 rfl) dX4_readName_15 rfl (fun _ => ?_) (fun _ => ?_)
      · exact p_f_X4_readName_b24 hd0 a0 a1 S h0 h1
      · refine j_iload_n 1 dX4_readName_18 rfl rfl ?_
        refine j_bipush dX4_readName_19 (by decide) ?_
        refine j_icmp_ne (tgt := 28) h1 (j_r32 17 rfl) dX4_readName_21 rfl (fun _ => ?_) (fun _ => ?_)
        · refine j_iconst dX4_readName_28 ?_
          exact p_f_X4_readName_b29 hd0 a0 a1 0 S h0 h1 jz0
        · exact p_f_X4_readName_b24 hd0 a0 a1 S h0 h1
theorem c_X4_readName {G : jG} (a0 : Int) (a1 : Int) (S : jSt) (h0 : 0 ≤ (a0)) (h1 : R32 (a1)) : CT G yX4_readName cX4_readName 3 (some .boolean) 3 ([(2, a0), (0, a1)].map jval) S (f_X4_readName a0 a1 S) := ct_of [(2, a0), (0, a1)] (by decide) rfl (Nat.le_of_ble_eq_true rfl) (e_X4_readName (Nat.le_refl _) a0 a1 S h0 h1)
-- X4_readPlainNumber
def f_X4_readPlainNumber (a0 : Int) (S : jSt) : Option (Int × jSt) :=
  fgetr S a0 4 2 (fun v1 => fget S a0 4 3 (fun v2 => fcallv S v1 9 (f_X9_valueAt v1 v2 S) (fun v3 S4 => if v3 ≤ 9999 then fget S4 a0 4 3 (fun v5 => fput S4 a0 4 3 (w32 (v5 + 1)) (fun S6 => fcallv S6 a0 4 (f_X4_emit a0 30 v3 S6) (fun v7 S8 => some (v7, S8)))) else fcallv S4 a0 4 (f_X4_refuse a0 2 S4) (fun v9 S10 => some (v9, S10)))))
theorem e_X4_readPlainNumber {G : jG} {d : Nat} {S0 : jSt} (hd0 : 3 ≤ d) (a0 : Int) (S : jSt) (h0 : 0 ≤ (a0)) : J G yX4_readPlainNumber cX4_readPlainNumber 2 (some .boolean) d S0 0 [(0, 2, a0)] [] S (f_X4_readPlainNumber a0 S) := by
  unfold f_X4_readPlainNumber
  refine j_aload_n 0 dX4_readPlainNumber_0 rfl rfl ?_
  refine j_getr (ci := 4) (k := 2) rfl in_X4 (Nat.le_of_ble_eq_true rfl) rfl rfl fl_X4_31 dX4_readPlainNumber_1 (fun (v1 : Int) (hv1 : 0 ≤ v1) => ?_)
  refine j_aload_n 0 dX4_readPlainNumber_4 rfl rfl ?_
  refine j_get (ci := 4) (k := 3) (t := 0) rfl in_X4 (Nat.le_of_ble_eq_true rfl) rfl rfl fl_X4_40 dX4_readPlainNumber_5 (fun (v2 : Int) (hv2 : R32 (v2)) => ?_)
  refine j_callV (ci := 9) (As := [(0, v2)]) (st := []) kc_X9_valueAt (c_X9_valueAt v1 v2 S hv1 hv2) rfl lm_X4_110 ki_X9_valueAt ke_X9_valueAt rfl (Nat.le_of_ble_eq_true rfl) (Nat.le_trans (m := 3) (Nat.le_of_ble_eq_true rfl) hd0) dX4_readPlainNumber_8 (fun (v3 : Int) (S4 : jSt) (hv3 : R32 (v3)) => ?_)
  refine j_istore_n (lv' := [(1, 0, v3), (0, 2, a0)]) dX4_readPlainNumber_11 rfl (Nat.le_of_ble_eq_true rfl) rfl ?_
  refine j_iload_n 0 dX4_readPlainNumber_12 rfl rfl ?_
  refine j_sipush dX4_readPlainNumber_13 (by decide) ?_
  refine j_icmp_le (tgt := 25) hv3 (j_r32 9999 rfl) dX4_readPlainNumber_16 rfl (fun _ => ?_) (fun _ => ?_)
  · refine j_aload_n 1 dX4_readPlainNumber_25 rfl rfl ?_
    refine j_dup dX4_readPlainNumber_26 (fun h => nomatch h) ?_
    refine j_get (ci := 4) (k := 3) (t := 0) rfl in_X4 (Nat.le_of_ble_eq_true rfl) rfl rfl fl_X4_40 dX4_readPlainNumber_27 (fun (v5 : Int) (hv5 : R32 (v5)) => ?_)
    refine j_iconst dX4_readPlainNumber_30 ?_
    refine j_iadd dX4_readPlainNumber_31 ?_
    refine j_puti (ci := 4) (k := 3) (ty0 := tyX4) rfl in_X4 (Nat.le_of_ble_eq_true rfl) rfl tyX4_ok nmX4 rfl rfl (by decide +kernel) (w32_R _) fl_X4_40 dX4_readPlainNumber_32 (fun S6 => ?_)
    refine j_aload_n 1 dX4_readPlainNumber_35 rfl rfl ?_
    refine j_bipush dX4_readPlainNumber_36 (by decide) ?_
    refine j_iload_n 0 dX4_readPlainNumber_38 rfl rfl ?_
    refine j_callV (ci := 4) (As := [(0, 30), (0, v3)]) (st := []) kc_X4_emit (c_X4_emit a0 30 v3 S6 h0 (j_r32 30 rfl) hv3) rfl lm_X4_116 ki_X4_emit ke_X4_emit rfl (Nat.le_of_ble_eq_true rfl) (Nat.le_trans (m := 3) (Nat.le_of_ble_eq_true rfl) hd0) dX4_readPlainNumber_39 (fun (v7 : Int) (S8 : jSt) (hv7 : (v7) = 0 ∨ (v7) = 1) => ?_)
    exact j_zreturn hv7 dX4_readPlainNumber_42
  · refine j_aload_n 1 dX4_readPlainNumber_19 rfl rfl ?_
    refine j_iconst dX4_readPlainNumber_20 ?_
    refine j_callV (ci := 4) (As := [(0, 2)]) (st := []) kc_X4_refuse (c_X4_refuse a0 2 S4 h0 (j_r32 2 rfl)) rfl lm_X4_84 ki_X4_refuse ke_X4_refuse rfl (Nat.le_of_ble_eq_true rfl) (Nat.le_trans (m := 3) (Nat.le_of_ble_eq_true rfl) hd0) dX4_readPlainNumber_21 (fun (v9 : Int) (S10 : jSt) (hv9 : (v9) = 0 ∨ (v9) = 1) => ?_)
    exact j_zreturn hv9 dX4_readPlainNumber_24
theorem c_X4_readPlainNumber {G : jG} (a0 : Int) (S : jSt) (h0 : 0 ≤ (a0)) : CT G yX4_readPlainNumber cX4_readPlainNumber 2 (some .boolean) 3 ([(2, a0)].map jval) S (f_X4_readPlainNumber a0 S) := ct_of [(2, a0)] (by decide) rfl (Nat.le_of_ble_eq_true rfl) (e_X4_readPlainNumber (Nat.le_refl _) a0 S h0)
-- X4_readAsk+X4_readBoth+X4_readEither+X4_readIf+X4_readOne+X4_readProduct+X4_readSum
def f_X4_readAsk_b121 (g_X4_readAsk : Int → Int → jSt → Option (Int × jSt)) (g_X4_readBoth : Int → Int → jSt → Option (Int × jSt)) (g_X4_readEither : Int → Int → jSt → Option (Int × jSt)) (g_X4_readIf : Int → Int → jSt → Option (Int × jSt)) (g_X4_readOne : Int → Int → jSt → Option (Int × jSt)) (g_X4_readProduct : Int → Int → jSt → Option (Int × jSt)) (g_X4_readSum : Int → Int → jSt → Option (Int × jSt)) (x0 : Int) (S : jSt) : Option (Int × jSt) :=
  some (x0, S)
theorem p_f_X4_readAsk_b121 {G : jG} {d : Nat} {S0 : jSt} (hd0 : 4 ≤ d) {g_X4_readAsk : Int → Int → jSt → Option (Int × jSt)} {g_X4_readBoth : Int → Int → jSt → Option (Int × jSt)} {g_X4_readEither : Int → Int → jSt → Option (Int × jSt)} {g_X4_readIf : Int → Int → jSt → Option (Int × jSt)} {g_X4_readOne : Int → Int → jSt → Option (Int × jSt)} {g_X4_readProduct : Int → Int → jSt → Option (Int × jSt)} {g_X4_readSum : Int → Int → jSt → Option (Int × jSt)} {dg : Nat} (hdg : dg + 1 ≤ d) (q_X4_readAsk : ∀ (a0 : Int) (a1 : Int) (S : jSt), (0 ≤ (a0)) → (R32 (a1)) → CT G yX4_readAsk cX4_readAsk 3 (some .boolean) dg ([(2, a0), (0, a1)].map jval) S (g_X4_readAsk a0 a1 S)) (q_X4_readBoth : ∀ (a0 : Int) (a1 : Int) (S : jSt), (0 ≤ (a0)) → (R32 (a1)) → CT G yX4_readBoth cX4_readBoth 3 (some .boolean) dg ([(2, a0), (0, a1)].map jval) S (g_X4_readBoth a0 a1 S)) (q_X4_readEither : ∀ (a0 : Int) (a1 : Int) (S : jSt), (0 ≤ (a0)) → (R32 (a1)) → CT G yX4_readEither cX4_readEither 3 (some .boolean) dg ([(2, a0), (0, a1)].map jval) S (g_X4_readEither a0 a1 S)) (q_X4_readIf : ∀ (a0 : Int) (a1 : Int) (S : jSt), (0 ≤ (a0)) → (R32 (a1)) → CT G yX4_readIf cX4_readIf 4 (some .boolean) dg ([(2, a0), (0, a1)].map jval) S (g_X4_readIf a0 a1 S)) (q_X4_readOne : ∀ (a0 : Int) (a1 : Int) (S : jSt), (0 ≤ (a0)) → (R32 (a1)) → CT G yX4_readOne cX4_readOne 3 (some .boolean) dg ([(2, a0), (0, a1)].map jval) S (g_X4_readOne a0 a1 S)) (q_X4_readProduct : ∀ (a0 : Int) (a1 : Int) (S : jSt), (0 ≤ (a0)) → (R32 (a1)) → CT G yX4_readProduct cX4_readProduct 4 (some .boolean) dg ([(2, a0), (0, a1)].map jval) S (g_X4_readProduct a0 a1 S)) (q_X4_readSum : ∀ (a0 : Int) (a1 : Int) (S : jSt), (0 ≤ (a0)) → (R32 (a1)) → CT G yX4_readSum cX4_readSum 4 (some .boolean) dg ([(2, a0), (0, a1)].map jval) S (g_X4_readSum a0 a1 S)) : ∀ (x0 : Int) (S : jSt), ((x0) = 0 ∨ (x0) = 1) → J G yX4_readAsk cX4_readAsk 3 (some .boolean) d S0 121 [] [(0, x0)] S (f_X4_readAsk_b121 g_X4_readAsk g_X4_readBoth g_X4_readEither g_X4_readIf g_X4_readOne g_X4_readProduct g_X4_readSum x0 S) := by
  intro x0 S h0
  unfold f_X4_readAsk_b121
  exact j_zreturn h0 dX4_readAsk_121
def f_X4_readAsk_b120 (g_X4_readAsk : Int → Int → jSt → Option (Int × jSt)) (g_X4_readBoth : Int → Int → jSt → Option (Int × jSt)) (g_X4_readEither : Int → Int → jSt → Option (Int × jSt)) (g_X4_readIf : Int → Int → jSt → Option (Int × jSt)) (g_X4_readOne : Int → Int → jSt → Option (Int × jSt)) (g_X4_readProduct : Int → Int → jSt → Option (Int × jSt)) (g_X4_readSum : Int → Int → jSt → Option (Int × jSt)) (S : jSt) : Option (Int × jSt) :=
  f_X4_readAsk_b121 g_X4_readAsk g_X4_readBoth g_X4_readEither g_X4_readIf g_X4_readOne g_X4_readProduct g_X4_readSum 0 S
theorem p_f_X4_readAsk_b120 {G : jG} {d : Nat} {S0 : jSt} (hd0 : 4 ≤ d) {g_X4_readAsk : Int → Int → jSt → Option (Int × jSt)} {g_X4_readBoth : Int → Int → jSt → Option (Int × jSt)} {g_X4_readEither : Int → Int → jSt → Option (Int × jSt)} {g_X4_readIf : Int → Int → jSt → Option (Int × jSt)} {g_X4_readOne : Int → Int → jSt → Option (Int × jSt)} {g_X4_readProduct : Int → Int → jSt → Option (Int × jSt)} {g_X4_readSum : Int → Int → jSt → Option (Int × jSt)} {dg : Nat} (hdg : dg + 1 ≤ d) (q_X4_readAsk : ∀ (a0 : Int) (a1 : Int) (S : jSt), (0 ≤ (a0)) → (R32 (a1)) → CT G yX4_readAsk cX4_readAsk 3 (some .boolean) dg ([(2, a0), (0, a1)].map jval) S (g_X4_readAsk a0 a1 S)) (q_X4_readBoth : ∀ (a0 : Int) (a1 : Int) (S : jSt), (0 ≤ (a0)) → (R32 (a1)) → CT G yX4_readBoth cX4_readBoth 3 (some .boolean) dg ([(2, a0), (0, a1)].map jval) S (g_X4_readBoth a0 a1 S)) (q_X4_readEither : ∀ (a0 : Int) (a1 : Int) (S : jSt), (0 ≤ (a0)) → (R32 (a1)) → CT G yX4_readEither cX4_readEither 3 (some .boolean) dg ([(2, a0), (0, a1)].map jval) S (g_X4_readEither a0 a1 S)) (q_X4_readIf : ∀ (a0 : Int) (a1 : Int) (S : jSt), (0 ≤ (a0)) → (R32 (a1)) → CT G yX4_readIf cX4_readIf 4 (some .boolean) dg ([(2, a0), (0, a1)].map jval) S (g_X4_readIf a0 a1 S)) (q_X4_readOne : ∀ (a0 : Int) (a1 : Int) (S : jSt), (0 ≤ (a0)) → (R32 (a1)) → CT G yX4_readOne cX4_readOne 3 (some .boolean) dg ([(2, a0), (0, a1)].map jval) S (g_X4_readOne a0 a1 S)) (q_X4_readProduct : ∀ (a0 : Int) (a1 : Int) (S : jSt), (0 ≤ (a0)) → (R32 (a1)) → CT G yX4_readProduct cX4_readProduct 4 (some .boolean) dg ([(2, a0), (0, a1)].map jval) S (g_X4_readProduct a0 a1 S)) (q_X4_readSum : ∀ (a0 : Int) (a1 : Int) (S : jSt), (0 ≤ (a0)) → (R32 (a1)) → CT G yX4_readSum cX4_readSum 4 (some .boolean) dg ([(2, a0), (0, a1)].map jval) S (g_X4_readSum a0 a1 S)) : ∀ (S : jSt), J G yX4_readAsk cX4_readAsk 3 (some .boolean) d S0 120 [] [] S (f_X4_readAsk_b120 g_X4_readAsk g_X4_readBoth g_X4_readEither g_X4_readIf g_X4_readOne g_X4_readProduct g_X4_readSum  S) := by
  intro S
  unfold f_X4_readAsk_b120
  refine j_iconst dX4_readAsk_120 ?_
  exact p_f_X4_readAsk_b121 hd0 hdg q_X4_readAsk q_X4_readBoth q_X4_readEither q_X4_readIf q_X4_readOne q_X4_readProduct q_X4_readSum 0 S jz0
def f_X4_readAsk_b56 (g_X4_readAsk : Int → Int → jSt → Option (Int × jSt)) (g_X4_readBoth : Int → Int → jSt → Option (Int × jSt)) (g_X4_readEither : Int → Int → jSt → Option (Int × jSt)) (g_X4_readIf : Int → Int → jSt → Option (Int × jSt)) (g_X4_readOne : Int → Int → jSt → Option (Int × jSt)) (g_X4_readProduct : Int → Int → jSt → Option (Int × jSt)) (g_X4_readSum : Int → Int → jSt → Option (Int × jSt)) (x0 : Int) (S : jSt) : Option (Int × jSt) :=
  some (x0, S)
theorem p_f_X4_readAsk_b56 {G : jG} {d : Nat} {S0 : jSt} (hd0 : 4 ≤ d) {g_X4_readAsk : Int → Int → jSt → Option (Int × jSt)} {g_X4_readBoth : Int → Int → jSt → Option (Int × jSt)} {g_X4_readEither : Int → Int → jSt → Option (Int × jSt)} {g_X4_readIf : Int → Int → jSt → Option (Int × jSt)} {g_X4_readOne : Int → Int → jSt → Option (Int × jSt)} {g_X4_readProduct : Int → Int → jSt → Option (Int × jSt)} {g_X4_readSum : Int → Int → jSt → Option (Int × jSt)} {dg : Nat} (hdg : dg + 1 ≤ d) (q_X4_readAsk : ∀ (a0 : Int) (a1 : Int) (S : jSt), (0 ≤ (a0)) → (R32 (a1)) → CT G yX4_readAsk cX4_readAsk 3 (some .boolean) dg ([(2, a0), (0, a1)].map jval) S (g_X4_readAsk a0 a1 S)) (q_X4_readBoth : ∀ (a0 : Int) (a1 : Int) (S : jSt), (0 ≤ (a0)) → (R32 (a1)) → CT G yX4_readBoth cX4_readBoth 3 (some .boolean) dg ([(2, a0), (0, a1)].map jval) S (g_X4_readBoth a0 a1 S)) (q_X4_readEither : ∀ (a0 : Int) (a1 : Int) (S : jSt), (0 ≤ (a0)) → (R32 (a1)) → CT G yX4_readEither cX4_readEither 3 (some .boolean) dg ([(2, a0), (0, a1)].map jval) S (g_X4_readEither a0 a1 S)) (q_X4_readIf : ∀ (a0 : Int) (a1 : Int) (S : jSt), (0 ≤ (a0)) → (R32 (a1)) → CT G yX4_readIf cX4_readIf 4 (some .boolean) dg ([(2, a0), (0, a1)].map jval) S (g_X4_readIf a0 a1 S)) (q_X4_readOne : ∀ (a0 : Int) (a1 : Int) (S : jSt), (0 ≤ (a0)) → (R32 (a1)) → CT G yX4_readOne cX4_readOne 3 (some .boolean) dg ([(2, a0), (0, a1)].map jval) S (g_X4_readOne a0 a1 S)) (q_X4_readProduct : ∀ (a0 : Int) (a1 : Int) (S : jSt), (0 ≤ (a0)) → (R32 (a1)) → CT G yX4_readProduct cX4_readProduct 4 (some .boolean) dg ([(2, a0), (0, a1)].map jval) S (g_X4_readProduct a0 a1 S)) (q_X4_readSum : ∀ (a0 : Int) (a1 : Int) (S : jSt), (0 ≤ (a0)) → (R32 (a1)) → CT G yX4_readSum cX4_readSum 4 (some .boolean) dg ([(2, a0), (0, a1)].map jval) S (g_X4_readSum a0 a1 S)) : ∀ (x0 : Int) (S : jSt), ((x0) = 0 ∨ (x0) = 1) → J G yX4_readAsk cX4_readAsk 3 (some .boolean) d S0 56 [] [(0, x0)] S (f_X4_readAsk_b56 g_X4_readAsk g_X4_readBoth g_X4_readEither g_X4_readIf g_X4_readOne g_X4_readProduct g_X4_readSum x0 S) := by
  intro x0 S h0
  unfold f_X4_readAsk_b56
  exact j_zreturn h0 dX4_readAsk_56
def f_X4_readAsk_b55 (g_X4_readAsk : Int → Int → jSt → Option (Int × jSt)) (g_X4_readBoth : Int → Int → jSt → Option (Int × jSt)) (g_X4_readEither : Int → Int → jSt → Option (Int × jSt)) (g_X4_readIf : Int → Int → jSt → Option (Int × jSt)) (g_X4_readOne : Int → Int → jSt → Option (Int × jSt)) (g_X4_readProduct : Int → Int → jSt → Option (Int × jSt)) (g_X4_readSum : Int → Int → jSt → Option (Int × jSt)) (S : jSt) : Option (Int × jSt) :=
  f_X4_readAsk_b56 g_X4_readAsk g_X4_readBoth g_X4_readEither g_X4_readIf g_X4_readOne g_X4_readProduct g_X4_readSum 0 S
theorem p_f_X4_readAsk_b55 {G : jG} {d : Nat} {S0 : jSt} (hd0 : 4 ≤ d) {g_X4_readAsk : Int → Int → jSt → Option (Int × jSt)} {g_X4_readBoth : Int → Int → jSt → Option (Int × jSt)} {g_X4_readEither : Int → Int → jSt → Option (Int × jSt)} {g_X4_readIf : Int → Int → jSt → Option (Int × jSt)} {g_X4_readOne : Int → Int → jSt → Option (Int × jSt)} {g_X4_readProduct : Int → Int → jSt → Option (Int × jSt)} {g_X4_readSum : Int → Int → jSt → Option (Int × jSt)} {dg : Nat} (hdg : dg + 1 ≤ d) (q_X4_readAsk : ∀ (a0 : Int) (a1 : Int) (S : jSt), (0 ≤ (a0)) → (R32 (a1)) → CT G yX4_readAsk cX4_readAsk 3 (some .boolean) dg ([(2, a0), (0, a1)].map jval) S (g_X4_readAsk a0 a1 S)) (q_X4_readBoth : ∀ (a0 : Int) (a1 : Int) (S : jSt), (0 ≤ (a0)) → (R32 (a1)) → CT G yX4_readBoth cX4_readBoth 3 (some .boolean) dg ([(2, a0), (0, a1)].map jval) S (g_X4_readBoth a0 a1 S)) (q_X4_readEither : ∀ (a0 : Int) (a1 : Int) (S : jSt), (0 ≤ (a0)) → (R32 (a1)) → CT G yX4_readEither cX4_readEither 3 (some .boolean) dg ([(2, a0), (0, a1)].map jval) S (g_X4_readEither a0 a1 S)) (q_X4_readIf : ∀ (a0 : Int) (a1 : Int) (S : jSt), (0 ≤ (a0)) → (R32 (a1)) → CT G yX4_readIf cX4_readIf 4 (some .boolean) dg ([(2, a0), (0, a1)].map jval) S (g_X4_readIf a0 a1 S)) (q_X4_readOne : ∀ (a0 : Int) (a1 : Int) (S : jSt), (0 ≤ (a0)) → (R32 (a1)) → CT G yX4_readOne cX4_readOne 3 (some .boolean) dg ([(2, a0), (0, a1)].map jval) S (g_X4_readOne a0 a1 S)) (q_X4_readProduct : ∀ (a0 : Int) (a1 : Int) (S : jSt), (0 ≤ (a0)) → (R32 (a1)) → CT G yX4_readProduct cX4_readProduct 4 (some .boolean) dg ([(2, a0), (0, a1)].map jval) S (g_X4_readProduct a0 a1 S)) (q_X4_readSum : ∀ (a0 : Int) (a1 : Int) (S : jSt), (0 ≤ (a0)) → (R32 (a1)) → CT G yX4_readSum cX4_readSum 4 (some .boolean) dg ([(2, a0), (0, a1)].map jval) S (g_X4_readSum a0 a1 S)) : ∀ (S : jSt), J G yX4_readAsk cX4_readAsk 3 (some .boolean) d S0 55 [] [] S (f_X4_readAsk_b55 g_X4_readAsk g_X4_readBoth g_X4_readEither g_X4_readIf g_X4_readOne g_X4_readProduct g_X4_readSum  S) := by
  intro S
  unfold f_X4_readAsk_b55
  refine j_iconst dX4_readAsk_55 ?_
  exact p_f_X4_readAsk_b56 hd0 hdg q_X4_readAsk q_X4_readBoth q_X4_readEither q_X4_readIf q_X4_readOne q_X4_readProduct q_X4_readSum 0 S jz0
def f_X4_readAsk_G (g_X4_readAsk : Int → Int → jSt → Option (Int × jSt)) (g_X4_readBoth : Int → Int → jSt → Option (Int × jSt)) (g_X4_readEither : Int → Int → jSt → Option (Int × jSt)) (g_X4_readIf : Int → Int → jSt → Option (Int × jSt)) (g_X4_readOne : Int → Int → jSt → Option (Int × jSt)) (g_X4_readProduct : Int → Int → jSt → Option (Int × jSt)) (g_X4_readSum : Int → Int → jSt → Option (Int × jSt)) (a0 : Int) (a1 : Int) (S : jSt) : Option (Int × jSt) :=
  fcallv S a0 4 (f_X4_kind a0 S) (fun v1 S2 => if v1 = 25 then if a1 < 8 then fget S2 a0 4 3 (fun v17 => fput S2 a0 4 3 (w32 (v17 + 1)) (fun S18 => fcallv S18 a0 4 (g_X4_readAsk a0 (w32 (a1 + 1)) S18) (fun v19 S20 => if v19 = 0 then f_X4_readAsk_b55 g_X4_readAsk g_X4_readBoth g_X4_readEither g_X4_readIf g_X4_readOne g_X4_readProduct g_X4_readSum S20 else fcallv S20 a0 4 (f_X4_emit a0 25 0 S20) (fun v21 S22 => if v21 = 0 then f_X4_readAsk_b55 g_X4_readAsk g_X4_readBoth g_X4_readEither g_X4_readIf g_X4_readOne g_X4_readProduct g_X4_readSum S22 else f_X4_readAsk_b56 g_X4_readAsk g_X4_readBoth g_X4_readEither g_X4_readIf g_X4_readOne g_X4_readProduct g_X4_readSum 1 S22)))) else fcallv S2 a0 4 (f_X4_refuse a0 3 S2) (fun v23 S24 => some (v23, S24)) else fcallv S2 a0 4 (g_X4_readSum a0 a1 S2) (fun v3 S4 => if v3 = 0 then some (0, S4) else fcallv S4 a0 4 (f_X4_kind a0 S4) (fun v5 S6 => fcall (f_X11_within v5 31 36 S6) (fun v7 S8 => if v7 = 0 then fcallv S8 a0 4 (f_X4_refuse a0 1 S8) (fun v15 S16 => some (v15, S16)) else fget S8 a0 4 3 (fun v9 => fput S8 a0 4 3 (w32 (v9 + 1)) (fun S10 => fcallv S10 a0 4 (g_X4_readSum a0 a1 S10) (fun v11 S12 => if v11 = 0 then f_X4_readAsk_b120 g_X4_readAsk g_X4_readBoth g_X4_readEither g_X4_readIf g_X4_readOne g_X4_readProduct g_X4_readSum S12 else fcallv S12 a0 4 (f_X4_emit a0 v5 0 S12) (fun v13 S14 => if v13 = 0 then f_X4_readAsk_b120 g_X4_readAsk g_X4_readBoth g_X4_readEither g_X4_readIf g_X4_readOne g_X4_readProduct g_X4_readSum S14 else f_X4_readAsk_b121 g_X4_readAsk g_X4_readBoth g_X4_readEither g_X4_readIf g_X4_readOne g_X4_readProduct g_X4_readSum 1 S14))))))))
theorem e_X4_readAsk_G {G : jG} {d : Nat} {S0 : jSt} (hd0 : 4 ≤ d) {g_X4_readAsk : Int → Int → jSt → Option (Int × jSt)} {g_X4_readBoth : Int → Int → jSt → Option (Int × jSt)} {g_X4_readEither : Int → Int → jSt → Option (Int × jSt)} {g_X4_readIf : Int → Int → jSt → Option (Int × jSt)} {g_X4_readOne : Int → Int → jSt → Option (Int × jSt)} {g_X4_readProduct : Int → Int → jSt → Option (Int × jSt)} {g_X4_readSum : Int → Int → jSt → Option (Int × jSt)} {dg : Nat} (hdg : dg + 1 ≤ d) (q_X4_readAsk : ∀ (a0 : Int) (a1 : Int) (S : jSt), (0 ≤ (a0)) → (R32 (a1)) → CT G yX4_readAsk cX4_readAsk 3 (some .boolean) dg ([(2, a0), (0, a1)].map jval) S (g_X4_readAsk a0 a1 S)) (q_X4_readBoth : ∀ (a0 : Int) (a1 : Int) (S : jSt), (0 ≤ (a0)) → (R32 (a1)) → CT G yX4_readBoth cX4_readBoth 3 (some .boolean) dg ([(2, a0), (0, a1)].map jval) S (g_X4_readBoth a0 a1 S)) (q_X4_readEither : ∀ (a0 : Int) (a1 : Int) (S : jSt), (0 ≤ (a0)) → (R32 (a1)) → CT G yX4_readEither cX4_readEither 3 (some .boolean) dg ([(2, a0), (0, a1)].map jval) S (g_X4_readEither a0 a1 S)) (q_X4_readIf : ∀ (a0 : Int) (a1 : Int) (S : jSt), (0 ≤ (a0)) → (R32 (a1)) → CT G yX4_readIf cX4_readIf 4 (some .boolean) dg ([(2, a0), (0, a1)].map jval) S (g_X4_readIf a0 a1 S)) (q_X4_readOne : ∀ (a0 : Int) (a1 : Int) (S : jSt), (0 ≤ (a0)) → (R32 (a1)) → CT G yX4_readOne cX4_readOne 3 (some .boolean) dg ([(2, a0), (0, a1)].map jval) S (g_X4_readOne a0 a1 S)) (q_X4_readProduct : ∀ (a0 : Int) (a1 : Int) (S : jSt), (0 ≤ (a0)) → (R32 (a1)) → CT G yX4_readProduct cX4_readProduct 4 (some .boolean) dg ([(2, a0), (0, a1)].map jval) S (g_X4_readProduct a0 a1 S)) (q_X4_readSum : ∀ (a0 : Int) (a1 : Int) (S : jSt), (0 ≤ (a0)) → (R32 (a1)) → CT G yX4_readSum cX4_readSum 4 (some .boolean) dg ([(2, a0), (0, a1)].map jval) S (g_X4_readSum a0 a1 S)) (a0 : Int) (a1 : Int) (S : jSt) (h0 : 0 ≤ (a0)) (h1 : R32 (a1)) : J G yX4_readAsk cX4_readAsk 3 (some .boolean) d S0 0 [(0, 2, a0), (1, 0, a1)] [] S (f_X4_readAsk_G g_X4_readAsk g_X4_readBoth g_X4_readEither g_X4_readIf g_X4_readOne g_X4_readProduct g_X4_readSum a0 a1 S) := by
  unfold f_X4_readAsk_G
  refine j_aload_n 0 dX4_readAsk_0 rfl rfl ?_
  refine j_callV (ci := 4) (As := []) (st := []) kc_X4_kind (c_X4_kind a0 S h0) rfl lm_X4_55 ki_X4_kind ke_X4_kind rfl (Nat.le_of_ble_eq_true rfl) (Nat.le_trans (m := 4) (Nat.le_of_ble_eq_true rfl) hd0) dX4_readAsk_1 (fun (v1 : Int) (S2 : jSt) (hv1 : R32 (v1)) => ?_)
  refine j_bipush dX4_readAsk_4 (by decide) ?_
  refine j_icmp_ne (tgt := 57) hv1 (j_r32 25 rfl) dX4_readAsk_6 rfl (fun _ => ?_) (fun _ => ?_)
  · refine j_aload_n 0 dX4_readAsk_57 rfl rfl ?_
    refine j_iload_n 1 dX4_readAsk_58 rfl rfl ?_
    refine j_callV (ci := 4) (As := [(0, a1)]) (st := []) kc_X4_readSum (q_X4_readSum a0 a1 S2 h0 h1) rfl lm_X4_104 ki_X4_readSum ke_X4_readSum rfl (Nat.le_of_ble_eq_true rfl) hdg dX4_readAsk_59 (fun (v3 : Int) (S4 : jSt) (hv3 : (v3) = 0 ∨ (v3) = 1) => ?_)
    refine j_if_ne (tgt := 67) (jZ_R hv3) dX4_readAsk_62 rfl (fun _ => ?_) (fun _ => ?_)
    · refine j_aload_n 0 dX4_readAsk_67 rfl rfl ?_
      refine j_callV (ci := 4) (As := []) (st := []) kc_X4_kind (c_X4_kind a0 S4 h0) rfl lm_X4_55 ki_X4_kind ke_X4_kind rfl (Nat.le_of_ble_eq_true rfl) (Nat.le_trans (m := 4) (Nat.le_of_ble_eq_true rfl) hd0) dX4_readAsk_68 (fun (v5 : Int) (S6 : jSt) (hv5 : R32 (v5)) => ?_)
      refine j_istore_n (lv' := [(2, 0, v5), (0, 2, a0), (1, 0, a1)]) dX4_readAsk_71 rfl (Nat.le_of_ble_eq_true rfl) rfl ?_
      refine j_iload_n 0 dX4_readAsk_72 rfl rfl ?_
      refine j_bipush dX4_readAsk_73 (by decide) ?_
      refine j_bipush dX4_readAsk_75 (by decide) ?_
      refine j_callSN (As := [(0, v5), (0, 31), (0, 36)]) (st := []) (host := RX11) kc_X11_within (c_X11_within v5 31 36 S6 hv5 (j_r32 31 rfl) (j_r32 36 rfl)) (by decide +kernel) ks_X11_within rfl (Nat.le_of_ble_eq_true rfl) (Nat.le_trans (m := 4) (Nat.le_of_ble_eq_true rfl) hd0) dX4_readAsk_77 (fun (v7 : Int) (S8 : jSt) (hv7 : (v7) = 0 ∨ (v7) = 1) => ?_)
      refine j_if_ne (tgt := 89) (jZ_R hv7) dX4_readAsk_80 rfl (fun _ => ?_) (fun _ => ?_)
      · refine j_aload_n 1 dX4_readAsk_89 rfl rfl ?_
        refine j_dup dX4_readAsk_90 (fun h => nomatch h) ?_
        refine j_get (ci := 4) (k := 3) (t := 0) rfl in_X4 (Nat.le_of_ble_eq_true rfl) rfl rfl fl_X4_40 dX4_readAsk_91 (fun (v9 : Int) (hv9 : R32 (v9)) => ?_)
        refine j_iconst dX4_readAsk_94 ?_
        refine j_iadd dX4_readAsk_95 ?_
        refine j_puti (ci := 4) (k := 3) (ty0 := tyX4) rfl in_X4 (Nat.le_of_ble_eq_true rfl) rfl tyX4_ok nmX4 rfl rfl (by decide +kernel) (w32_R _) fl_X4_40 dX4_readAsk_96 (fun S10 => ?_)
        refine j_aload_n 1 dX4_readAsk_99 rfl rfl ?_
        refine j_iload_n 2 dX4_readAsk_100 rfl rfl ?_
        refine j_callV (ci := 4) (As := [(0, a1)]) (st := []) kc_X4_readSum (q_X4_readSum a0 a1 S10 h0 h1) rfl lm_X4_104 ki_X4_readSum ke_X4_readSum rfl (Nat.le_of_ble_eq_true rfl) hdg dX4_readAsk_101 (fun (v11 : Int) (S12 : jSt) (hv11 : (v11) = 0 ∨ (v11) = 1) => ?_)
        refine j_if_eq (tgt := 120) (jZ_R hv11) dX4_readAsk_104 rfl (fun _ => ?_) (fun _ => ?_)
        · refine j_sub [] rfl ?_
          exact p_f_X4_readAsk_b120 hd0 hdg q_X4_readAsk q_X4_readBoth q_X4_readEither q_X4_readIf q_X4_readOne q_X4_readProduct q_X4_readSum S12
        · refine j_aload_n 1 dX4_readAsk_107 rfl rfl ?_
          refine j_iload_n 0 dX4_readAsk_108 rfl rfl ?_
          refine j_iconst dX4_readAsk_109 ?_
          refine j_callV (ci := 4) (As := [(0, v5), (0, 0)]) (st := []) kc_X4_emit (c_X4_emit a0 v5 0 S12 h0 hv5 (jZ_R jz0)) rfl lm_X4_116 ki_X4_emit ke_X4_emit rfl (Nat.le_of_ble_eq_true rfl) (Nat.le_trans (m := 4) (Nat.le_of_ble_eq_true rfl) hd0) dX4_readAsk_110 (fun (v13 : Int) (S14 : jSt) (hv13 : (v13) = 0 ∨ (v13) = 1) => ?_)
          refine j_if_eq (tgt := 120) (jZ_R hv13) dX4_readAsk_113 rfl (fun _ => ?_) (fun _ => ?_)
          · refine j_sub [] rfl ?_
            exact p_f_X4_readAsk_b120 hd0 hdg q_X4_readAsk q_X4_readBoth q_X4_readEither q_X4_readIf q_X4_readOne q_X4_readProduct q_X4_readSum S14
          · refine j_iconst dX4_readAsk_116 ?_
            refine j_goto (tgt := 121) dX4_readAsk_117 rfl ?_
            refine j_sub [] rfl ?_
            exact p_f_X4_readAsk_b121 hd0 hdg q_X4_readAsk q_X4_readBoth q_X4_readEither q_X4_readIf q_X4_readOne q_X4_readProduct q_X4_readSum 1 S14 jz1
      · refine j_aload_n 1 dX4_readAsk_83 rfl rfl ?_
        refine j_iconst dX4_readAsk_84 ?_
        refine j_callV (ci := 4) (As := [(0, 1)]) (st := []) kc_X4_refuse (c_X4_refuse a0 1 S8 h0 (jZ_R jz1)) rfl lm_X4_84 ki_X4_refuse ke_X4_refuse rfl (Nat.le_of_ble_eq_true rfl) (Nat.le_trans (m := 4) (Nat.le_of_ble_eq_true rfl) hd0) dX4_readAsk_85 (fun (v15 : Int) (S16 : jSt) (hv15 : (v15) = 0 ∨ (v15) = 1) => ?_)
        exact j_zreturn hv15 dX4_readAsk_88
    · refine j_iconst dX4_readAsk_65 ?_
      exact j_zreturn jz0 dX4_readAsk_66
  · refine j_iload_n 1 dX4_readAsk_9 rfl rfl ?_
    refine j_bipush dX4_readAsk_10 (by decide) ?_
    refine j_icmp_lt (tgt := 21) h1 (j_r32 8 rfl) dX4_readAsk_12 rfl (fun _ => ?_) (fun _ => ?_)
    · refine j_aload_n 0 dX4_readAsk_21 rfl rfl ?_
      refine j_dup dX4_readAsk_22 (fun h => nomatch h) ?_
      refine j_get (ci := 4) (k := 3) (t := 0) rfl in_X4 (Nat.le_of_ble_eq_true rfl) rfl rfl fl_X4_40 dX4_readAsk_23 (fun (v17 : Int) (hv17 : R32 (v17)) => ?_)
      refine j_iconst dX4_readAsk_26 ?_
      refine j_iadd dX4_readAsk_27 ?_
      refine j_puti (ci := 4) (k := 3) (ty0 := tyX4) rfl in_X4 (Nat.le_of_ble_eq_true rfl) rfl tyX4_ok nmX4 rfl rfl (by decide +kernel) (w32_R _) fl_X4_40 dX4_readAsk_28 (fun S18 => ?_)
      refine j_aload_n 0 dX4_readAsk_31 rfl rfl ?_
      refine j_iload_n 1 dX4_readAsk_32 rfl rfl ?_
      refine j_iconst dX4_readAsk_33 ?_
      refine j_iadd dX4_readAsk_34 ?_
      refine j_callV (ci := 4) (As := [(0, w32 (a1 + 1))]) (st := []) kc_X4_readAsk (q_X4_readAsk a0 (w32 (a1 + 1)) S18 h0 (w32_R _)) rfl lm_X4_142 ki_X4_readAsk ke_X4_readAsk rfl (Nat.le_of_ble_eq_true rfl) hdg dX4_readAsk_35 (fun (v19 : Int) (S20 : jSt) (hv19 : (v19) = 0 ∨ (v19) = 1) => ?_)
      refine j_if_eq (tgt := 55) (jZ_R hv19) dX4_readAsk_38 rfl (fun _ => ?_) (fun _ => ?_)
      · refine j_sub [] rfl ?_
        exact p_f_X4_readAsk_b55 hd0 hdg q_X4_readAsk q_X4_readBoth q_X4_readEither q_X4_readIf q_X4_readOne q_X4_readProduct q_X4_readSum S20
      · refine j_aload_n 0 dX4_readAsk_41 rfl rfl ?_
        refine j_bipush dX4_readAsk_42 (by decide) ?_
        refine j_iconst dX4_readAsk_44 ?_
        refine j_callV (ci := 4) (As := [(0, 25), (0, 0)]) (st := []) kc_X4_emit (c_X4_emit a0 25 0 S20 h0 (j_r32 25 rfl) (jZ_R jz0)) rfl lm_X4_116 ki_X4_emit ke_X4_emit rfl (Nat.le_of_ble_eq_true rfl) (Nat.le_trans (m := 4) (Nat.le_of_ble_eq_true rfl) hd0) dX4_readAsk_45 (fun (v21 : Int) (S22 : jSt) (hv21 : (v21) = 0 ∨ (v21) = 1) => ?_)
        refine j_if_eq (tgt := 55) (jZ_R hv21) dX4_readAsk_48 rfl (fun _ => ?_) (fun _ => ?_)
        · refine j_sub [] rfl ?_
          exact p_f_X4_readAsk_b55 hd0 hdg q_X4_readAsk q_X4_readBoth q_X4_readEither q_X4_readIf q_X4_readOne q_X4_readProduct q_X4_readSum S22
        · refine j_iconst dX4_readAsk_51 ?_
          refine j_goto (tgt := 56) dX4_readAsk_52 rfl ?_
          refine j_sub [] rfl ?_
          exact p_f_X4_readAsk_b56 hd0 hdg q_X4_readAsk q_X4_readBoth q_X4_readEither q_X4_readIf q_X4_readOne q_X4_readProduct q_X4_readSum 1 S22 jz1
    · refine j_aload_n 0 dX4_readAsk_15 rfl rfl ?_
      refine j_iconst dX4_readAsk_16 ?_
      refine j_callV (ci := 4) (As := [(0, 3)]) (st := []) kc_X4_refuse (c_X4_refuse a0 3 S2 h0 (j_r32 3 rfl)) rfl lm_X4_84 ki_X4_refuse ke_X4_refuse rfl (Nat.le_of_ble_eq_true rfl) (Nat.le_trans (m := 4) (Nat.le_of_ble_eq_true rfl) hd0) dX4_readAsk_17 (fun (v23 : Int) (S24 : jSt) (hv23 : (v23) = 0 ∨ (v23) = 1) => ?_)
      exact j_zreturn hv23 dX4_readAsk_20
def f_X4_readBoth_b62 (g_X4_readAsk : Int → Int → jSt → Option (Int × jSt)) (g_X4_readBoth : Int → Int → jSt → Option (Int × jSt)) (g_X4_readEither : Int → Int → jSt → Option (Int × jSt)) (g_X4_readIf : Int → Int → jSt → Option (Int × jSt)) (g_X4_readOne : Int → Int → jSt → Option (Int × jSt)) (g_X4_readProduct : Int → Int → jSt → Option (Int × jSt)) (g_X4_readSum : Int → Int → jSt → Option (Int × jSt)) (S : jSt) : Option (Int × jSt) :=
  some (1, S)
theorem p_f_X4_readBoth_b62 {G : jG} {d : Nat} {S0 : jSt} (hd0 : 4 ≤ d) {g_X4_readAsk : Int → Int → jSt → Option (Int × jSt)} {g_X4_readBoth : Int → Int → jSt → Option (Int × jSt)} {g_X4_readEither : Int → Int → jSt → Option (Int × jSt)} {g_X4_readIf : Int → Int → jSt → Option (Int × jSt)} {g_X4_readOne : Int → Int → jSt → Option (Int × jSt)} {g_X4_readProduct : Int → Int → jSt → Option (Int × jSt)} {g_X4_readSum : Int → Int → jSt → Option (Int × jSt)} {dg : Nat} (hdg : dg + 1 ≤ d) (q_X4_readAsk : ∀ (a0 : Int) (a1 : Int) (S : jSt), (0 ≤ (a0)) → (R32 (a1)) → CT G yX4_readAsk cX4_readAsk 3 (some .boolean) dg ([(2, a0), (0, a1)].map jval) S (g_X4_readAsk a0 a1 S)) (q_X4_readBoth : ∀ (a0 : Int) (a1 : Int) (S : jSt), (0 ≤ (a0)) → (R32 (a1)) → CT G yX4_readBoth cX4_readBoth 3 (some .boolean) dg ([(2, a0), (0, a1)].map jval) S (g_X4_readBoth a0 a1 S)) (q_X4_readEither : ∀ (a0 : Int) (a1 : Int) (S : jSt), (0 ≤ (a0)) → (R32 (a1)) → CT G yX4_readEither cX4_readEither 3 (some .boolean) dg ([(2, a0), (0, a1)].map jval) S (g_X4_readEither a0 a1 S)) (q_X4_readIf : ∀ (a0 : Int) (a1 : Int) (S : jSt), (0 ≤ (a0)) → (R32 (a1)) → CT G yX4_readIf cX4_readIf 4 (some .boolean) dg ([(2, a0), (0, a1)].map jval) S (g_X4_readIf a0 a1 S)) (q_X4_readOne : ∀ (a0 : Int) (a1 : Int) (S : jSt), (0 ≤ (a0)) → (R32 (a1)) → CT G yX4_readOne cX4_readOne 3 (some .boolean) dg ([(2, a0), (0, a1)].map jval) S (g_X4_readOne a0 a1 S)) (q_X4_readProduct : ∀ (a0 : Int) (a1 : Int) (S : jSt), (0 ≤ (a0)) → (R32 (a1)) → CT G yX4_readProduct cX4_readProduct 4 (some .boolean) dg ([(2, a0), (0, a1)].map jval) S (g_X4_readProduct a0 a1 S)) (q_X4_readSum : ∀ (a0 : Int) (a1 : Int) (S : jSt), (0 ≤ (a0)) → (R32 (a1)) → CT G yX4_readSum cX4_readSum 4 (some .boolean) dg ([(2, a0), (0, a1)].map jval) S (g_X4_readSum a0 a1 S)) : ∀ (S : jSt), J G yX4_readBoth cX4_readBoth 3 (some .boolean) d S0 62 [] [] S (f_X4_readBoth_b62 g_X4_readAsk g_X4_readBoth g_X4_readEither g_X4_readIf g_X4_readOne g_X4_readProduct g_X4_readSum  S) := by
  intro S
  unfold f_X4_readBoth_b62
  refine j_iconst dX4_readBoth_62 ?_
  exact j_zreturn jz1 dX4_readBoth_63
def f_X4_readBoth_b12B (g_X4_readAsk : Int → Int → jSt → Option (Int × jSt)) (g_X4_readBoth : Int → Int → jSt → Option (Int × jSt)) (g_X4_readEither : Int → Int → jSt → Option (Int × jSt)) (g_X4_readIf : Int → Int → jSt → Option (Int × jSt)) (g_X4_readOne : Int → Int → jSt → Option (Int × jSt)) (g_X4_readProduct : Int → Int → jSt → Option (Int × jSt)) (g_X4_readSum : Int → Int → jSt → Option (Int × jSt)) (r12 : Int → Int → Int → jSt → Option (Int × jSt)) (x0 : Int) (x1 : Int) (x2 : Int) (S : jSt) : Option (Int × jSt) :=
  if 300 ≤ x2 then f_X4_readBoth_b62 g_X4_readAsk g_X4_readBoth g_X4_readEither g_X4_readIf g_X4_readOne g_X4_readProduct g_X4_readSum S else fcallv S x0 4 (f_X4_kind x0 S) (fun v3 S4 => if v3 = 29 then fget S4 x0 4 3 (fun v5 => fput S4 x0 4 3 (w32 (v5 + 1)) (fun S6 => fcallv S6 x0 4 (g_X4_readAsk x0 x1 S6) (fun v7 S8 => if v7 = 0 then some (0, S8) else fcallv S8 x0 4 (f_X4_emit x0 29 0 S8) (fun v9 S10 => flet (w32 (x2 + 1)) (fun v11 => r12 x0 x1 v11 S10))))) else f_X4_readBoth_b62 g_X4_readAsk g_X4_readBoth g_X4_readEither g_X4_readIf g_X4_readOne g_X4_readProduct g_X4_readSum S4)
theorem p_f_X4_readBoth_b12B {G : jG} {d : Nat} {S0 : jSt} (hd0 : 4 ≤ d) {g_X4_readAsk : Int → Int → jSt → Option (Int × jSt)} {g_X4_readBoth : Int → Int → jSt → Option (Int × jSt)} {g_X4_readEither : Int → Int → jSt → Option (Int × jSt)} {g_X4_readIf : Int → Int → jSt → Option (Int × jSt)} {g_X4_readOne : Int → Int → jSt → Option (Int × jSt)} {g_X4_readProduct : Int → Int → jSt → Option (Int × jSt)} {g_X4_readSum : Int → Int → jSt → Option (Int × jSt)} {dg : Nat} (hdg : dg + 1 ≤ d) (q_X4_readAsk : ∀ (a0 : Int) (a1 : Int) (S : jSt), (0 ≤ (a0)) → (R32 (a1)) → CT G yX4_readAsk cX4_readAsk 3 (some .boolean) dg ([(2, a0), (0, a1)].map jval) S (g_X4_readAsk a0 a1 S)) (q_X4_readBoth : ∀ (a0 : Int) (a1 : Int) (S : jSt), (0 ≤ (a0)) → (R32 (a1)) → CT G yX4_readBoth cX4_readBoth 3 (some .boolean) dg ([(2, a0), (0, a1)].map jval) S (g_X4_readBoth a0 a1 S)) (q_X4_readEither : ∀ (a0 : Int) (a1 : Int) (S : jSt), (0 ≤ (a0)) → (R32 (a1)) → CT G yX4_readEither cX4_readEither 3 (some .boolean) dg ([(2, a0), (0, a1)].map jval) S (g_X4_readEither a0 a1 S)) (q_X4_readIf : ∀ (a0 : Int) (a1 : Int) (S : jSt), (0 ≤ (a0)) → (R32 (a1)) → CT G yX4_readIf cX4_readIf 4 (some .boolean) dg ([(2, a0), (0, a1)].map jval) S (g_X4_readIf a0 a1 S)) (q_X4_readOne : ∀ (a0 : Int) (a1 : Int) (S : jSt), (0 ≤ (a0)) → (R32 (a1)) → CT G yX4_readOne cX4_readOne 3 (some .boolean) dg ([(2, a0), (0, a1)].map jval) S (g_X4_readOne a0 a1 S)) (q_X4_readProduct : ∀ (a0 : Int) (a1 : Int) (S : jSt), (0 ≤ (a0)) → (R32 (a1)) → CT G yX4_readProduct cX4_readProduct 4 (some .boolean) dg ([(2, a0), (0, a1)].map jval) S (g_X4_readProduct a0 a1 S)) (q_X4_readSum : ∀ (a0 : Int) (a1 : Int) (S : jSt), (0 ≤ (a0)) → (R32 (a1)) → CT G yX4_readSum cX4_readSum 4 (some .boolean) dg ([(2, a0), (0, a1)].map jval) S (g_X4_readSum a0 a1 S)) {r12 : Int → Int → Int → jSt → Option (Int × jSt)} (k12 : ∀ (x0 : Int) (x1 : Int) (x2 : Int) (S : jSt), (0 ≤ (x0)) → (R32 (x1)) → (R32 (x2)) → J G yX4_readBoth cX4_readBoth 3 (some .boolean) d S0 12 [(0, 2, x0), (1, 0, x1), (2, 0, x2)] [] S (r12 x0 x1 x2 S)) : ∀ (x0 : Int) (x1 : Int) (x2 : Int) (S : jSt), (0 ≤ (x0)) → (R32 (x1)) → (R32 (x2)) → J G yX4_readBoth cX4_readBoth 3 (some .boolean) d S0 12 [(0, 2, x0), (1, 0, x1), (2, 0, x2)] [] S (f_X4_readBoth_b12B g_X4_readAsk g_X4_readBoth g_X4_readEither g_X4_readIf g_X4_readOne g_X4_readProduct g_X4_readSum r12 x0 x1 x2 S) := by
  intro x0 x1 x2 S h0 h1 h2
  unfold f_X4_readBoth_b12B
  refine j_iload_n 2 dX4_readBoth_12 rfl rfl ?_
  refine j_sipush dX4_readBoth_13 (by decide) ?_
  refine j_icmp_ge (tgt := 62) h2 (j_r32 300 rfl) dX4_readBoth_16 rfl (fun _ => ?_) (fun _ => ?_)
  · refine j_sub [] rfl ?_
    exact p_f_X4_readBoth_b62 hd0 hdg q_X4_readAsk q_X4_readBoth q_X4_readEither q_X4_readIf q_X4_readOne q_X4_readProduct q_X4_readSum S
  · refine j_aload_n 0 dX4_readBoth_19 rfl rfl ?_
    refine j_callV (ci := 4) (As := []) (st := []) kc_X4_kind (c_X4_kind x0 S h0) rfl lm_X4_55 ki_X4_kind ke_X4_kind rfl (Nat.le_of_ble_eq_true rfl) (Nat.le_trans (m := 4) (Nat.le_of_ble_eq_true rfl) hd0) dX4_readBoth_20 (fun (v3 : Int) (S4 : jSt) (hv3 : R32 (v3)) => ?_)
    refine j_bipush dX4_readBoth_23 (by decide) ?_
    refine j_icmp_ne (tgt := 62) hv3 (j_r32 29 rfl) dX4_readBoth_25 rfl (fun _ => ?_) (fun _ => ?_)
    · refine j_sub [] rfl ?_
      exact p_f_X4_readBoth_b62 hd0 hdg q_X4_readAsk q_X4_readBoth q_X4_readEither q_X4_readIf q_X4_readOne q_X4_readProduct q_X4_readSum S4
    · refine j_aload_n 0 dX4_readBoth_28 rfl rfl ?_
      refine j_dup dX4_readBoth_29 (fun h => nomatch h) ?_
      refine j_get (ci := 4) (k := 3) (t := 0) rfl in_X4 (Nat.le_of_ble_eq_true rfl) rfl rfl fl_X4_40 dX4_readBoth_30 (fun (v5 : Int) (hv5 : R32 (v5)) => ?_)
      refine j_iconst dX4_readBoth_33 ?_
      refine j_iadd dX4_readBoth_34 ?_
      refine j_puti (ci := 4) (k := 3) (ty0 := tyX4) rfl in_X4 (Nat.le_of_ble_eq_true rfl) rfl tyX4_ok nmX4 rfl rfl (by decide +kernel) (w32_R _) fl_X4_40 dX4_readBoth_35 (fun S6 => ?_)
      refine j_aload_n 0 dX4_readBoth_38 rfl rfl ?_
      refine j_iload_n 1 dX4_readBoth_39 rfl rfl ?_
      refine j_callV (ci := 4) (As := [(0, x1)]) (st := []) kc_X4_readAsk (q_X4_readAsk x0 x1 S6 h0 h1) rfl lm_X4_142 ki_X4_readAsk ke_X4_readAsk rfl (Nat.le_of_ble_eq_true rfl) hdg dX4_readBoth_40 (fun (v7 : Int) (S8 : jSt) (hv7 : (v7) = 0 ∨ (v7) = 1) => ?_)
      refine j_if_ne (tgt := 48) (jZ_R hv7) dX4_readBoth_43 rfl (fun _ => ?_) (fun _ => ?_)
      · refine j_aload_n 0 dX4_readBoth_48 rfl rfl ?_
        refine j_bipush dX4_readBoth_49 (by decide) ?_
        refine j_iconst dX4_readBoth_51 ?_
        refine j_callV (ci := 4) (As := [(0, 29), (0, 0)]) (st := []) kc_X4_emit (c_X4_emit x0 29 0 S8 h0 (j_r32 29 rfl) (jZ_R jz0)) rfl lm_X4_116 ki_X4_emit ke_X4_emit rfl (Nat.le_of_ble_eq_true rfl) (Nat.le_trans (m := 4) (Nat.le_of_ble_eq_true rfl) hd0) dX4_readBoth_52 (fun (v9 : Int) (S10 : jSt) (hv9 : (v9) = 0 ∨ (v9) = 1) => ?_)
        refine j_pop dX4_readBoth_55 (fun h => nomatch h) ?_
        refine j_iincL (q := 2) dX4_readBoth_56 rfl (Nat.le_of_ble_eq_true rfl) (fun v11 hv11 => ?_)
        refine j_lv (lv' := [(2, 0, v11), (0, 2, x0), (1, 0, x1)]) rfl ?_
        refine j_goto (tgt := 12) dX4_readBoth_59 rfl ?_
        refine j_sub [1, 2, 0] rfl ?_
        exact k12 x0 x1 v11 S10 h0 h1 hv11
      · refine j_iconst dX4_readBoth_46 ?_
        exact j_zreturn jz0 dX4_readBoth_47
def f_X4_readBoth_b12 (g_X4_readAsk : Int → Int → jSt → Option (Int × jSt)) (g_X4_readBoth : Int → Int → jSt → Option (Int × jSt)) (g_X4_readEither : Int → Int → jSt → Option (Int × jSt)) (g_X4_readIf : Int → Int → jSt → Option (Int × jSt)) (g_X4_readOne : Int → Int → jSt → Option (Int × jSt)) (g_X4_readProduct : Int → Int → jSt → Option (Int × jSt)) (g_X4_readSum : Int → Int → jSt → Option (Int × jSt)) : Int → Int → Int → jSt → Option (Int × jSt) := jrep (β := Int → Int → Int → jSt → Option (Int × jSt)) (fun _ _ _ _ => none) (fun r => f_X4_readBoth_b12B g_X4_readAsk g_X4_readBoth g_X4_readEither g_X4_readIf g_X4_readOne g_X4_readProduct g_X4_readSum r) jN
theorem p_f_X4_readBoth_b12 {G : jG} {d : Nat} {S0 : jSt} (hd0 : 4 ≤ d) {g_X4_readAsk : Int → Int → jSt → Option (Int × jSt)} {g_X4_readBoth : Int → Int → jSt → Option (Int × jSt)} {g_X4_readEither : Int → Int → jSt → Option (Int × jSt)} {g_X4_readIf : Int → Int → jSt → Option (Int × jSt)} {g_X4_readOne : Int → Int → jSt → Option (Int × jSt)} {g_X4_readProduct : Int → Int → jSt → Option (Int × jSt)} {g_X4_readSum : Int → Int → jSt → Option (Int × jSt)} {dg : Nat} (hdg : dg + 1 ≤ d) (q_X4_readAsk : ∀ (a0 : Int) (a1 : Int) (S : jSt), (0 ≤ (a0)) → (R32 (a1)) → CT G yX4_readAsk cX4_readAsk 3 (some .boolean) dg ([(2, a0), (0, a1)].map jval) S (g_X4_readAsk a0 a1 S)) (q_X4_readBoth : ∀ (a0 : Int) (a1 : Int) (S : jSt), (0 ≤ (a0)) → (R32 (a1)) → CT G yX4_readBoth cX4_readBoth 3 (some .boolean) dg ([(2, a0), (0, a1)].map jval) S (g_X4_readBoth a0 a1 S)) (q_X4_readEither : ∀ (a0 : Int) (a1 : Int) (S : jSt), (0 ≤ (a0)) → (R32 (a1)) → CT G yX4_readEither cX4_readEither 3 (some .boolean) dg ([(2, a0), (0, a1)].map jval) S (g_X4_readEither a0 a1 S)) (q_X4_readIf : ∀ (a0 : Int) (a1 : Int) (S : jSt), (0 ≤ (a0)) → (R32 (a1)) → CT G yX4_readIf cX4_readIf 4 (some .boolean) dg ([(2, a0), (0, a1)].map jval) S (g_X4_readIf a0 a1 S)) (q_X4_readOne : ∀ (a0 : Int) (a1 : Int) (S : jSt), (0 ≤ (a0)) → (R32 (a1)) → CT G yX4_readOne cX4_readOne 3 (some .boolean) dg ([(2, a0), (0, a1)].map jval) S (g_X4_readOne a0 a1 S)) (q_X4_readProduct : ∀ (a0 : Int) (a1 : Int) (S : jSt), (0 ≤ (a0)) → (R32 (a1)) → CT G yX4_readProduct cX4_readProduct 4 (some .boolean) dg ([(2, a0), (0, a1)].map jval) S (g_X4_readProduct a0 a1 S)) (q_X4_readSum : ∀ (a0 : Int) (a1 : Int) (S : jSt), (0 ≤ (a0)) → (R32 (a1)) → CT G yX4_readSum cX4_readSum 4 (some .boolean) dg ([(2, a0), (0, a1)].map jval) S (g_X4_readSum a0 a1 S)) : ∀ (x0 : Int) (x1 : Int) (x2 : Int) (S : jSt), (0 ≤ (x0)) → (R32 (x1)) → (R32 (x2)) → J G yX4_readBoth cX4_readBoth 3 (some .boolean) d S0 12 [(0, 2, x0), (1, 0, x1), (2, 0, x2)] [] S (f_X4_readBoth_b12 g_X4_readAsk g_X4_readBoth g_X4_readEither g_X4_readIf g_X4_readOne g_X4_readProduct g_X4_readSum x0 x1 x2 S) :=
  jrep_ind (P := fun (r : Int → Int → Int → jSt → Option (Int × jSt)) => ∀ (x0 : Int) (x1 : Int) (x2 : Int) (S : jSt), (0 ≤ (x0)) → (R32 (x1)) → (R32 (x2)) → J G yX4_readBoth cX4_readBoth 3 (some .boolean) d S0 12 [(0, 2, x0), (1, 0, x1), (2, 0, x2)] [] S (r x0 x1 x2 S)) (by intros; exact j_none) (fun r k => p_f_X4_readBoth_b12B hd0 hdg q_X4_readAsk q_X4_readBoth q_X4_readEither q_X4_readIf q_X4_readOne q_X4_readProduct q_X4_readSum k) jN
def f_X4_readBoth_G (g_X4_readAsk : Int → Int → jSt → Option (Int × jSt)) (g_X4_readBoth : Int → Int → jSt → Option (Int × jSt)) (g_X4_readEither : Int → Int → jSt → Option (Int × jSt)) (g_X4_readIf : Int → Int → jSt → Option (Int × jSt)) (g_X4_readOne : Int → Int → jSt → Option (Int × jSt)) (g_X4_readProduct : Int → Int → jSt → Option (Int × jSt)) (g_X4_readSum : Int → Int → jSt → Option (Int × jSt)) (a0 : Int) (a1 : Int) (S : jSt) : Option (Int × jSt) :=
  fcallv S a0 4 (g_X4_readAsk a0 a1 S) (fun v1 S2 => if v1 = 0 then some (0, S2) else f_X4_readBoth_b12 g_X4_readAsk g_X4_readBoth g_X4_readEither g_X4_readIf g_X4_readOne g_X4_readProduct g_X4_readSum a0 a1 0 S2)
theorem e_X4_readBoth_G {G : jG} {d : Nat} {S0 : jSt} (hd0 : 4 ≤ d) {g_X4_readAsk : Int → Int → jSt → Option (Int × jSt)} {g_X4_readBoth : Int → Int → jSt → Option (Int × jSt)} {g_X4_readEither : Int → Int → jSt → Option (Int × jSt)} {g_X4_readIf : Int → Int → jSt → Option (Int × jSt)} {g_X4_readOne : Int → Int → jSt → Option (Int × jSt)} {g_X4_readProduct : Int → Int → jSt → Option (Int × jSt)} {g_X4_readSum : Int → Int → jSt → Option (Int × jSt)} {dg : Nat} (hdg : dg + 1 ≤ d) (q_X4_readAsk : ∀ (a0 : Int) (a1 : Int) (S : jSt), (0 ≤ (a0)) → (R32 (a1)) → CT G yX4_readAsk cX4_readAsk 3 (some .boolean) dg ([(2, a0), (0, a1)].map jval) S (g_X4_readAsk a0 a1 S)) (q_X4_readBoth : ∀ (a0 : Int) (a1 : Int) (S : jSt), (0 ≤ (a0)) → (R32 (a1)) → CT G yX4_readBoth cX4_readBoth 3 (some .boolean) dg ([(2, a0), (0, a1)].map jval) S (g_X4_readBoth a0 a1 S)) (q_X4_readEither : ∀ (a0 : Int) (a1 : Int) (S : jSt), (0 ≤ (a0)) → (R32 (a1)) → CT G yX4_readEither cX4_readEither 3 (some .boolean) dg ([(2, a0), (0, a1)].map jval) S (g_X4_readEither a0 a1 S)) (q_X4_readIf : ∀ (a0 : Int) (a1 : Int) (S : jSt), (0 ≤ (a0)) → (R32 (a1)) → CT G yX4_readIf cX4_readIf 4 (some .boolean) dg ([(2, a0), (0, a1)].map jval) S (g_X4_readIf a0 a1 S)) (q_X4_readOne : ∀ (a0 : Int) (a1 : Int) (S : jSt), (0 ≤ (a0)) → (R32 (a1)) → CT G yX4_readOne cX4_readOne 3 (some .boolean) dg ([(2, a0), (0, a1)].map jval) S (g_X4_readOne a0 a1 S)) (q_X4_readProduct : ∀ (a0 : Int) (a1 : Int) (S : jSt), (0 ≤ (a0)) → (R32 (a1)) → CT G yX4_readProduct cX4_readProduct 4 (some .boolean) dg ([(2, a0), (0, a1)].map jval) S (g_X4_readProduct a0 a1 S)) (q_X4_readSum : ∀ (a0 : Int) (a1 : Int) (S : jSt), (0 ≤ (a0)) → (R32 (a1)) → CT G yX4_readSum cX4_readSum 4 (some .boolean) dg ([(2, a0), (0, a1)].map jval) S (g_X4_readSum a0 a1 S)) (a0 : Int) (a1 : Int) (S : jSt) (h0 : 0 ≤ (a0)) (h1 : R32 (a1)) : J G yX4_readBoth cX4_readBoth 3 (some .boolean) d S0 0 [(0, 2, a0), (1, 0, a1)] [] S (f_X4_readBoth_G g_X4_readAsk g_X4_readBoth g_X4_readEither g_X4_readIf g_X4_readOne g_X4_readProduct g_X4_readSum a0 a1 S) := by
  unfold f_X4_readBoth_G
  refine j_aload_n 0 dX4_readBoth_0 rfl rfl ?_
  refine j_iload_n 1 dX4_readBoth_1 rfl rfl ?_
  refine j_callV (ci := 4) (As := [(0, a1)]) (st := []) kc_X4_readAsk (q_X4_readAsk a0 a1 S h0 h1) rfl lm_X4_142 ki_X4_readAsk ke_X4_readAsk rfl (Nat.le_of_ble_eq_true rfl) hdg dX4_readBoth_2 (fun (v1 : Int) (S2 : jSt) (hv1 : (v1) = 0 ∨ (v1) = 1) => ?_)
  refine j_if_ne (tgt := 10) (jZ_R hv1) dX4_readBoth_5 rfl (fun _ => ?_) (fun _ => ?_)
  · refine j_iconst dX4_readBoth_10 ?_
    refine j_istore_n (lv' := [(2, 0, 0), (0, 2, a0), (1, 0, a1)]) dX4_readBoth_11 rfl (Nat.le_of_ble_eq_true rfl) rfl ?_
    refine j_sub [1, 2, 0] rfl ?_
    exact p_f_X4_readBoth_b12 hd0 hdg q_X4_readAsk q_X4_readBoth q_X4_readEither q_X4_readIf q_X4_readOne q_X4_readProduct q_X4_readSum a0 a1 0 S2 h0 h1 (jZ_R jz0)
  · refine j_iconst dX4_readBoth_8 ?_
    exact j_zreturn jz0 dX4_readBoth_9
def f_X4_readEither_b62 (g_X4_readAsk : Int → Int → jSt → Option (Int × jSt)) (g_X4_readBoth : Int → Int → jSt → Option (Int × jSt)) (g_X4_readEither : Int → Int → jSt → Option (Int × jSt)) (g_X4_readIf : Int → Int → jSt → Option (Int × jSt)) (g_X4_readOne : Int → Int → jSt → Option (Int × jSt)) (g_X4_readProduct : Int → Int → jSt → Option (Int × jSt)) (g_X4_readSum : Int → Int → jSt → Option (Int × jSt)) (S : jSt) : Option (Int × jSt) :=
  some (1, S)
theorem p_f_X4_readEither_b62 {G : jG} {d : Nat} {S0 : jSt} (hd0 : 4 ≤ d) {g_X4_readAsk : Int → Int → jSt → Option (Int × jSt)} {g_X4_readBoth : Int → Int → jSt → Option (Int × jSt)} {g_X4_readEither : Int → Int → jSt → Option (Int × jSt)} {g_X4_readIf : Int → Int → jSt → Option (Int × jSt)} {g_X4_readOne : Int → Int → jSt → Option (Int × jSt)} {g_X4_readProduct : Int → Int → jSt → Option (Int × jSt)} {g_X4_readSum : Int → Int → jSt → Option (Int × jSt)} {dg : Nat} (hdg : dg + 1 ≤ d) (q_X4_readAsk : ∀ (a0 : Int) (a1 : Int) (S : jSt), (0 ≤ (a0)) → (R32 (a1)) → CT G yX4_readAsk cX4_readAsk 3 (some .boolean) dg ([(2, a0), (0, a1)].map jval) S (g_X4_readAsk a0 a1 S)) (q_X4_readBoth : ∀ (a0 : Int) (a1 : Int) (S : jSt), (0 ≤ (a0)) → (R32 (a1)) → CT G yX4_readBoth cX4_readBoth 3 (some .boolean) dg ([(2, a0), (0, a1)].map jval) S (g_X4_readBoth a0 a1 S)) (q_X4_readEither : ∀ (a0 : Int) (a1 : Int) (S : jSt), (0 ≤ (a0)) → (R32 (a1)) → CT G yX4_readEither cX4_readEither 3 (some .boolean) dg ([(2, a0), (0, a1)].map jval) S (g_X4_readEither a0 a1 S)) (q_X4_readIf : ∀ (a0 : Int) (a1 : Int) (S : jSt), (0 ≤ (a0)) → (R32 (a1)) → CT G yX4_readIf cX4_readIf 4 (some .boolean) dg ([(2, a0), (0, a1)].map jval) S (g_X4_readIf a0 a1 S)) (q_X4_readOne : ∀ (a0 : Int) (a1 : Int) (S : jSt), (0 ≤ (a0)) → (R32 (a1)) → CT G yX4_readOne cX4_readOne 3 (some .boolean) dg ([(2, a0), (0, a1)].map jval) S (g_X4_readOne a0 a1 S)) (q_X4_readProduct : ∀ (a0 : Int) (a1 : Int) (S : jSt), (0 ≤ (a0)) → (R32 (a1)) → CT G yX4_readProduct cX4_readProduct 4 (some .boolean) dg ([(2, a0), (0, a1)].map jval) S (g_X4_readProduct a0 a1 S)) (q_X4_readSum : ∀ (a0 : Int) (a1 : Int) (S : jSt), (0 ≤ (a0)) → (R32 (a1)) → CT G yX4_readSum cX4_readSum 4 (some .boolean) dg ([(2, a0), (0, a1)].map jval) S (g_X4_readSum a0 a1 S)) : ∀ (S : jSt), J G yX4_readEither cX4_readEither 3 (some .boolean) d S0 62 [] [] S (f_X4_readEither_b62 g_X4_readAsk g_X4_readBoth g_X4_readEither g_X4_readIf g_X4_readOne g_X4_readProduct g_X4_readSum  S) := by
  intro S
  unfold f_X4_readEither_b62
  refine j_iconst dX4_readEither_62 ?_
  exact j_zreturn jz1 dX4_readEither_63
def f_X4_readEither_b12B (g_X4_readAsk : Int → Int → jSt → Option (Int × jSt)) (g_X4_readBoth : Int → Int → jSt → Option (Int × jSt)) (g_X4_readEither : Int → Int → jSt → Option (Int × jSt)) (g_X4_readIf : Int → Int → jSt → Option (Int × jSt)) (g_X4_readOne : Int → Int → jSt → Option (Int × jSt)) (g_X4_readProduct : Int → Int → jSt → Option (Int × jSt)) (g_X4_readSum : Int → Int → jSt → Option (Int × jSt)) (r12 : Int → Int → Int → jSt → Option (Int × jSt)) (x0 : Int) (x1 : Int) (x2 : Int) (S : jSt) : Option (Int × jSt) :=
  if 300 ≤ x2 then f_X4_readEither_b62 g_X4_readAsk g_X4_readBoth g_X4_readEither g_X4_readIf g_X4_readOne g_X4_readProduct g_X4_readSum S else fcallv S x0 4 (f_X4_kind x0 S) (fun v3 S4 => if v3 = 28 then fget S4 x0 4 3 (fun v5 => fput S4 x0 4 3 (w32 (v5 + 1)) (fun S6 => fcallv S6 x0 4 (g_X4_readBoth x0 x1 S6) (fun v7 S8 => if v7 = 0 then some (0, S8) else fcallv S8 x0 4 (f_X4_emit x0 28 0 S8) (fun v9 S10 => flet (w32 (x2 + 1)) (fun v11 => r12 x0 x1 v11 S10))))) else f_X4_readEither_b62 g_X4_readAsk g_X4_readBoth g_X4_readEither g_X4_readIf g_X4_readOne g_X4_readProduct g_X4_readSum S4)
theorem p_f_X4_readEither_b12B {G : jG} {d : Nat} {S0 : jSt} (hd0 : 4 ≤ d) {g_X4_readAsk : Int → Int → jSt → Option (Int × jSt)} {g_X4_readBoth : Int → Int → jSt → Option (Int × jSt)} {g_X4_readEither : Int → Int → jSt → Option (Int × jSt)} {g_X4_readIf : Int → Int → jSt → Option (Int × jSt)} {g_X4_readOne : Int → Int → jSt → Option (Int × jSt)} {g_X4_readProduct : Int → Int → jSt → Option (Int × jSt)} {g_X4_readSum : Int → Int → jSt → Option (Int × jSt)} {dg : Nat} (hdg : dg + 1 ≤ d) (q_X4_readAsk : ∀ (a0 : Int) (a1 : Int) (S : jSt), (0 ≤ (a0)) → (R32 (a1)) → CT G yX4_readAsk cX4_readAsk 3 (some .boolean) dg ([(2, a0), (0, a1)].map jval) S (g_X4_readAsk a0 a1 S)) (q_X4_readBoth : ∀ (a0 : Int) (a1 : Int) (S : jSt), (0 ≤ (a0)) → (R32 (a1)) → CT G yX4_readBoth cX4_readBoth 3 (some .boolean) dg ([(2, a0), (0, a1)].map jval) S (g_X4_readBoth a0 a1 S)) (q_X4_readEither : ∀ (a0 : Int) (a1 : Int) (S : jSt), (0 ≤ (a0)) → (R32 (a1)) → CT G yX4_readEither cX4_readEither 3 (some .boolean) dg ([(2, a0), (0, a1)].map jval) S (g_X4_readEither a0 a1 S)) (q_X4_readIf : ∀ (a0 : Int) (a1 : Int) (S : jSt), (0 ≤ (a0)) → (R32 (a1)) → CT G yX4_readIf cX4_readIf 4 (some .boolean) dg ([(2, a0), (0, a1)].map jval) S (g_X4_readIf a0 a1 S)) (q_X4_readOne : ∀ (a0 : Int) (a1 : Int) (S : jSt), (0 ≤ (a0)) → (R32 (a1)) → CT G yX4_readOne cX4_readOne 3 (some .boolean) dg ([(2, a0), (0, a1)].map jval) S (g_X4_readOne a0 a1 S)) (q_X4_readProduct : ∀ (a0 : Int) (a1 : Int) (S : jSt), (0 ≤ (a0)) → (R32 (a1)) → CT G yX4_readProduct cX4_readProduct 4 (some .boolean) dg ([(2, a0), (0, a1)].map jval) S (g_X4_readProduct a0 a1 S)) (q_X4_readSum : ∀ (a0 : Int) (a1 : Int) (S : jSt), (0 ≤ (a0)) → (R32 (a1)) → CT G yX4_readSum cX4_readSum 4 (some .boolean) dg ([(2, a0), (0, a1)].map jval) S (g_X4_readSum a0 a1 S)) {r12 : Int → Int → Int → jSt → Option (Int × jSt)} (k12 : ∀ (x0 : Int) (x1 : Int) (x2 : Int) (S : jSt), (0 ≤ (x0)) → (R32 (x1)) → (R32 (x2)) → J G yX4_readEither cX4_readEither 3 (some .boolean) d S0 12 [(0, 2, x0), (1, 0, x1), (2, 0, x2)] [] S (r12 x0 x1 x2 S)) : ∀ (x0 : Int) (x1 : Int) (x2 : Int) (S : jSt), (0 ≤ (x0)) → (R32 (x1)) → (R32 (x2)) → J G yX4_readEither cX4_readEither 3 (some .boolean) d S0 12 [(0, 2, x0), (1, 0, x1), (2, 0, x2)] [] S (f_X4_readEither_b12B g_X4_readAsk g_X4_readBoth g_X4_readEither g_X4_readIf g_X4_readOne g_X4_readProduct g_X4_readSum r12 x0 x1 x2 S) := by
  intro x0 x1 x2 S h0 h1 h2
  unfold f_X4_readEither_b12B
  refine j_iload_n 2 dX4_readEither_12 rfl rfl ?_
  refine j_sipush dX4_readEither_13 (by decide) ?_
  refine j_icmp_ge (tgt := 62) h2 (j_r32 300 rfl) dX4_readEither_16 rfl (fun _ => ?_) (fun _ => ?_)
  · refine j_sub [] rfl ?_
    exact p_f_X4_readEither_b62 hd0 hdg q_X4_readAsk q_X4_readBoth q_X4_readEither q_X4_readIf q_X4_readOne q_X4_readProduct q_X4_readSum S
  · refine j_aload_n 0 dX4_readEither_19 rfl rfl ?_
    refine j_callV (ci := 4) (As := []) (st := []) kc_X4_kind (c_X4_kind x0 S h0) rfl lm_X4_55 ki_X4_kind ke_X4_kind rfl (Nat.le_of_ble_eq_true rfl) (Nat.le_trans (m := 4) (Nat.le_of_ble_eq_true rfl) hd0) dX4_readEither_20 (fun (v3 : Int) (S4 : jSt) (hv3 : R32 (v3)) => ?_)
    refine j_bipush dX4_readEither_23 (by decide) ?_
    refine j_icmp_ne (tgt := 62) hv3 (j_r32 28 rfl) dX4_readEither_25 rfl (fun _ => ?_) (fun _ => ?_)
    · refine j_sub [] rfl ?_
      exact p_f_X4_readEither_b62 hd0 hdg q_X4_readAsk q_X4_readBoth q_X4_readEither q_X4_readIf q_X4_readOne q_X4_readProduct q_X4_readSum S4
    · refine j_aload_n 0 dX4_readEither_28 rfl rfl ?_
      refine j_dup dX4_readEither_29 (fun h => nomatch h) ?_
      refine j_get (ci := 4) (k := 3) (t := 0) rfl in_X4 (Nat.le_of_ble_eq_true rfl) rfl rfl fl_X4_40 dX4_readEither_30 (fun (v5 : Int) (hv5 : R32 (v5)) => ?_)
      refine j_iconst dX4_readEither_33 ?_
      refine j_iadd dX4_readEither_34 ?_
      refine j_puti (ci := 4) (k := 3) (ty0 := tyX4) rfl in_X4 (Nat.le_of_ble_eq_true rfl) rfl tyX4_ok nmX4 rfl rfl (by decide +kernel) (w32_R _) fl_X4_40 dX4_readEither_35 (fun S6 => ?_)
      refine j_aload_n 0 dX4_readEither_38 rfl rfl ?_
      refine j_iload_n 1 dX4_readEither_39 rfl rfl ?_
      refine j_callV (ci := 4) (As := [(0, x1)]) (st := []) kc_X4_readBoth (q_X4_readBoth x0 x1 S6 h0 h1) rfl lm_X4_139 ki_X4_readBoth ke_X4_readBoth rfl (Nat.le_of_ble_eq_true rfl) hdg dX4_readEither_40 (fun (v7 : Int) (S8 : jSt) (hv7 : (v7) = 0 ∨ (v7) = 1) => ?_)
      refine j_if_ne (tgt := 48) (jZ_R hv7) dX4_readEither_43 rfl (fun _ => ?_) (fun _ => ?_)
      · refine j_aload_n 0 dX4_readEither_48 rfl rfl ?_
        refine j_bipush dX4_readEither_49 (by decide) ?_
        refine j_iconst dX4_readEither_51 ?_
        refine j_callV (ci := 4) (As := [(0, 28), (0, 0)]) (st := []) kc_X4_emit (c_X4_emit x0 28 0 S8 h0 (j_r32 28 rfl) (jZ_R jz0)) rfl lm_X4_116 ki_X4_emit ke_X4_emit rfl (Nat.le_of_ble_eq_true rfl) (Nat.le_trans (m := 4) (Nat.le_of_ble_eq_true rfl) hd0) dX4_readEither_52 (fun (v9 : Int) (S10 : jSt) (hv9 : (v9) = 0 ∨ (v9) = 1) => ?_)
        refine j_pop dX4_readEither_55 (fun h => nomatch h) ?_
        refine j_iincL (q := 2) dX4_readEither_56 rfl (Nat.le_of_ble_eq_true rfl) (fun v11 hv11 => ?_)
        refine j_lv (lv' := [(2, 0, v11), (0, 2, x0), (1, 0, x1)]) rfl ?_
        refine j_goto (tgt := 12) dX4_readEither_59 rfl ?_
        refine j_sub [1, 2, 0] rfl ?_
        exact k12 x0 x1 v11 S10 h0 h1 hv11
      · refine j_iconst dX4_readEither_46 ?_
        exact j_zreturn jz0 dX4_readEither_47
def f_X4_readEither_b12 (g_X4_readAsk : Int → Int → jSt → Option (Int × jSt)) (g_X4_readBoth : Int → Int → jSt → Option (Int × jSt)) (g_X4_readEither : Int → Int → jSt → Option (Int × jSt)) (g_X4_readIf : Int → Int → jSt → Option (Int × jSt)) (g_X4_readOne : Int → Int → jSt → Option (Int × jSt)) (g_X4_readProduct : Int → Int → jSt → Option (Int × jSt)) (g_X4_readSum : Int → Int → jSt → Option (Int × jSt)) : Int → Int → Int → jSt → Option (Int × jSt) := jrep (β := Int → Int → Int → jSt → Option (Int × jSt)) (fun _ _ _ _ => none) (fun r => f_X4_readEither_b12B g_X4_readAsk g_X4_readBoth g_X4_readEither g_X4_readIf g_X4_readOne g_X4_readProduct g_X4_readSum r) jN
theorem p_f_X4_readEither_b12 {G : jG} {d : Nat} {S0 : jSt} (hd0 : 4 ≤ d) {g_X4_readAsk : Int → Int → jSt → Option (Int × jSt)} {g_X4_readBoth : Int → Int → jSt → Option (Int × jSt)} {g_X4_readEither : Int → Int → jSt → Option (Int × jSt)} {g_X4_readIf : Int → Int → jSt → Option (Int × jSt)} {g_X4_readOne : Int → Int → jSt → Option (Int × jSt)} {g_X4_readProduct : Int → Int → jSt → Option (Int × jSt)} {g_X4_readSum : Int → Int → jSt → Option (Int × jSt)} {dg : Nat} (hdg : dg + 1 ≤ d) (q_X4_readAsk : ∀ (a0 : Int) (a1 : Int) (S : jSt), (0 ≤ (a0)) → (R32 (a1)) → CT G yX4_readAsk cX4_readAsk 3 (some .boolean) dg ([(2, a0), (0, a1)].map jval) S (g_X4_readAsk a0 a1 S)) (q_X4_readBoth : ∀ (a0 : Int) (a1 : Int) (S : jSt), (0 ≤ (a0)) → (R32 (a1)) → CT G yX4_readBoth cX4_readBoth 3 (some .boolean) dg ([(2, a0), (0, a1)].map jval) S (g_X4_readBoth a0 a1 S)) (q_X4_readEither : ∀ (a0 : Int) (a1 : Int) (S : jSt), (0 ≤ (a0)) → (R32 (a1)) → CT G yX4_readEither cX4_readEither 3 (some .boolean) dg ([(2, a0), (0, a1)].map jval) S (g_X4_readEither a0 a1 S)) (q_X4_readIf : ∀ (a0 : Int) (a1 : Int) (S : jSt), (0 ≤ (a0)) → (R32 (a1)) → CT G yX4_readIf cX4_readIf 4 (some .boolean) dg ([(2, a0), (0, a1)].map jval) S (g_X4_readIf a0 a1 S)) (q_X4_readOne : ∀ (a0 : Int) (a1 : Int) (S : jSt), (0 ≤ (a0)) → (R32 (a1)) → CT G yX4_readOne cX4_readOne 3 (some .boolean) dg ([(2, a0), (0, a1)].map jval) S (g_X4_readOne a0 a1 S)) (q_X4_readProduct : ∀ (a0 : Int) (a1 : Int) (S : jSt), (0 ≤ (a0)) → (R32 (a1)) → CT G yX4_readProduct cX4_readProduct 4 (some .boolean) dg ([(2, a0), (0, a1)].map jval) S (g_X4_readProduct a0 a1 S)) (q_X4_readSum : ∀ (a0 : Int) (a1 : Int) (S : jSt), (0 ≤ (a0)) → (R32 (a1)) → CT G yX4_readSum cX4_readSum 4 (some .boolean) dg ([(2, a0), (0, a1)].map jval) S (g_X4_readSum a0 a1 S)) : ∀ (x0 : Int) (x1 : Int) (x2 : Int) (S : jSt), (0 ≤ (x0)) → (R32 (x1)) → (R32 (x2)) → J G yX4_readEither cX4_readEither 3 (some .boolean) d S0 12 [(0, 2, x0), (1, 0, x1), (2, 0, x2)] [] S (f_X4_readEither_b12 g_X4_readAsk g_X4_readBoth g_X4_readEither g_X4_readIf g_X4_readOne g_X4_readProduct g_X4_readSum x0 x1 x2 S) :=
  jrep_ind (P := fun (r : Int → Int → Int → jSt → Option (Int × jSt)) => ∀ (x0 : Int) (x1 : Int) (x2 : Int) (S : jSt), (0 ≤ (x0)) → (R32 (x1)) → (R32 (x2)) → J G yX4_readEither cX4_readEither 3 (some .boolean) d S0 12 [(0, 2, x0), (1, 0, x1), (2, 0, x2)] [] S (r x0 x1 x2 S)) (by intros; exact j_none) (fun r k => p_f_X4_readEither_b12B hd0 hdg q_X4_readAsk q_X4_readBoth q_X4_readEither q_X4_readIf q_X4_readOne q_X4_readProduct q_X4_readSum k) jN
def f_X4_readEither_G (g_X4_readAsk : Int → Int → jSt → Option (Int × jSt)) (g_X4_readBoth : Int → Int → jSt → Option (Int × jSt)) (g_X4_readEither : Int → Int → jSt → Option (Int × jSt)) (g_X4_readIf : Int → Int → jSt → Option (Int × jSt)) (g_X4_readOne : Int → Int → jSt → Option (Int × jSt)) (g_X4_readProduct : Int → Int → jSt → Option (Int × jSt)) (g_X4_readSum : Int → Int → jSt → Option (Int × jSt)) (a0 : Int) (a1 : Int) (S : jSt) : Option (Int × jSt) :=
  fcallv S a0 4 (g_X4_readBoth a0 a1 S) (fun v1 S2 => if v1 = 0 then some (0, S2) else f_X4_readEither_b12 g_X4_readAsk g_X4_readBoth g_X4_readEither g_X4_readIf g_X4_readOne g_X4_readProduct g_X4_readSum a0 a1 0 S2)
theorem e_X4_readEither_G {G : jG} {d : Nat} {S0 : jSt} (hd0 : 4 ≤ d) {g_X4_readAsk : Int → Int → jSt → Option (Int × jSt)} {g_X4_readBoth : Int → Int → jSt → Option (Int × jSt)} {g_X4_readEither : Int → Int → jSt → Option (Int × jSt)} {g_X4_readIf : Int → Int → jSt → Option (Int × jSt)} {g_X4_readOne : Int → Int → jSt → Option (Int × jSt)} {g_X4_readProduct : Int → Int → jSt → Option (Int × jSt)} {g_X4_readSum : Int → Int → jSt → Option (Int × jSt)} {dg : Nat} (hdg : dg + 1 ≤ d) (q_X4_readAsk : ∀ (a0 : Int) (a1 : Int) (S : jSt), (0 ≤ (a0)) → (R32 (a1)) → CT G yX4_readAsk cX4_readAsk 3 (some .boolean) dg ([(2, a0), (0, a1)].map jval) S (g_X4_readAsk a0 a1 S)) (q_X4_readBoth : ∀ (a0 : Int) (a1 : Int) (S : jSt), (0 ≤ (a0)) → (R32 (a1)) → CT G yX4_readBoth cX4_readBoth 3 (some .boolean) dg ([(2, a0), (0, a1)].map jval) S (g_X4_readBoth a0 a1 S)) (q_X4_readEither : ∀ (a0 : Int) (a1 : Int) (S : jSt), (0 ≤ (a0)) → (R32 (a1)) → CT G yX4_readEither cX4_readEither 3 (some .boolean) dg ([(2, a0), (0, a1)].map jval) S (g_X4_readEither a0 a1 S)) (q_X4_readIf : ∀ (a0 : Int) (a1 : Int) (S : jSt), (0 ≤ (a0)) → (R32 (a1)) → CT G yX4_readIf cX4_readIf 4 (some .boolean) dg ([(2, a0), (0, a1)].map jval) S (g_X4_readIf a0 a1 S)) (q_X4_readOne : ∀ (a0 : Int) (a1 : Int) (S : jSt), (0 ≤ (a0)) → (R32 (a1)) → CT G yX4_readOne cX4_readOne 3 (some .boolean) dg ([(2, a0), (0, a1)].map jval) S (g_X4_readOne a0 a1 S)) (q_X4_readProduct : ∀ (a0 : Int) (a1 : Int) (S : jSt), (0 ≤ (a0)) → (R32 (a1)) → CT G yX4_readProduct cX4_readProduct 4 (some .boolean) dg ([(2, a0), (0, a1)].map jval) S (g_X4_readProduct a0 a1 S)) (q_X4_readSum : ∀ (a0 : Int) (a1 : Int) (S : jSt), (0 ≤ (a0)) → (R32 (a1)) → CT G yX4_readSum cX4_readSum 4 (some .boolean) dg ([(2, a0), (0, a1)].map jval) S (g_X4_readSum a0 a1 S)) (a0 : Int) (a1 : Int) (S : jSt) (h0 : 0 ≤ (a0)) (h1 : R32 (a1)) : J G yX4_readEither cX4_readEither 3 (some .boolean) d S0 0 [(0, 2, a0), (1, 0, a1)] [] S (f_X4_readEither_G g_X4_readAsk g_X4_readBoth g_X4_readEither g_X4_readIf g_X4_readOne g_X4_readProduct g_X4_readSum a0 a1 S) := by
  unfold f_X4_readEither_G
  refine j_aload_n 0 dX4_readEither_0 rfl rfl ?_
  refine j_iload_n 1 dX4_readEither_1 rfl rfl ?_
  refine j_callV (ci := 4) (As := [(0, a1)]) (st := []) kc_X4_readBoth (q_X4_readBoth a0 a1 S h0 h1) rfl lm_X4_139 ki_X4_readBoth ke_X4_readBoth rfl (Nat.le_of_ble_eq_true rfl) hdg dX4_readEither_2 (fun (v1 : Int) (S2 : jSt) (hv1 : (v1) = 0 ∨ (v1) = 1) => ?_)
  refine j_if_ne (tgt := 10) (jZ_R hv1) dX4_readEither_5 rfl (fun _ => ?_) (fun _ => ?_)
  · refine j_iconst dX4_readEither_10 ?_
    refine j_istore_n (lv' := [(2, 0, 0), (0, 2, a0), (1, 0, a1)]) dX4_readEither_11 rfl (Nat.le_of_ble_eq_true rfl) rfl ?_
    refine j_sub [1, 2, 0] rfl ?_
    exact p_f_X4_readEither_b12 hd0 hdg q_X4_readAsk q_X4_readBoth q_X4_readEither q_X4_readIf q_X4_readOne q_X4_readProduct q_X4_readSum a0 a1 0 S2 h0 h1 (jZ_R jz0)
  · refine j_iconst dX4_readEither_8 ?_
    exact j_zreturn jz0 dX4_readEither_9
def f_X4_readIf_b17 (g_X4_readAsk : Int → Int → jSt → Option (Int × jSt)) (g_X4_readBoth : Int → Int → jSt → Option (Int × jSt)) (g_X4_readEither : Int → Int → jSt → Option (Int × jSt)) (g_X4_readIf : Int → Int → jSt → Option (Int × jSt)) (g_X4_readOne : Int → Int → jSt → Option (Int × jSt)) (g_X4_readProduct : Int → Int → jSt → Option (Int × jSt)) (g_X4_readSum : Int → Int → jSt → Option (Int × jSt)) (S : jSt) : Option (Int × jSt) :=
  some (0, S)
theorem p_f_X4_readIf_b17 {G : jG} {d : Nat} {S0 : jSt} (hd0 : 4 ≤ d) {g_X4_readAsk : Int → Int → jSt → Option (Int × jSt)} {g_X4_readBoth : Int → Int → jSt → Option (Int × jSt)} {g_X4_readEither : Int → Int → jSt → Option (Int × jSt)} {g_X4_readIf : Int → Int → jSt → Option (Int × jSt)} {g_X4_readOne : Int → Int → jSt → Option (Int × jSt)} {g_X4_readProduct : Int → Int → jSt → Option (Int × jSt)} {g_X4_readSum : Int → Int → jSt → Option (Int × jSt)} {dg : Nat} (hdg : dg + 1 ≤ d) (q_X4_readAsk : ∀ (a0 : Int) (a1 : Int) (S : jSt), (0 ≤ (a0)) → (R32 (a1)) → CT G yX4_readAsk cX4_readAsk 3 (some .boolean) dg ([(2, a0), (0, a1)].map jval) S (g_X4_readAsk a0 a1 S)) (q_X4_readBoth : ∀ (a0 : Int) (a1 : Int) (S : jSt), (0 ≤ (a0)) → (R32 (a1)) → CT G yX4_readBoth cX4_readBoth 3 (some .boolean) dg ([(2, a0), (0, a1)].map jval) S (g_X4_readBoth a0 a1 S)) (q_X4_readEither : ∀ (a0 : Int) (a1 : Int) (S : jSt), (0 ≤ (a0)) → (R32 (a1)) → CT G yX4_readEither cX4_readEither 3 (some .boolean) dg ([(2, a0), (0, a1)].map jval) S (g_X4_readEither a0 a1 S)) (q_X4_readIf : ∀ (a0 : Int) (a1 : Int) (S : jSt), (0 ≤ (a0)) → (R32 (a1)) → CT G yX4_readIf cX4_readIf 4 (some .boolean) dg ([(2, a0), (0, a1)].map jval) S (g_X4_readIf a0 a1 S)) (q_X4_readOne : ∀ (a0 : Int) (a1 : Int) (S : jSt), (0 ≤ (a0)) → (R32 (a1)) → CT G yX4_readOne cX4_readOne 3 (some .boolean) dg ([(2, a0), (0, a1)].map jval) S (g_X4_readOne a0 a1 S)) (q_X4_readProduct : ∀ (a0 : Int) (a1 : Int) (S : jSt), (0 ≤ (a0)) → (R32 (a1)) → CT G yX4_readProduct cX4_readProduct 4 (some .boolean) dg ([(2, a0), (0, a1)].map jval) S (g_X4_readProduct a0 a1 S)) (q_X4_readSum : ∀ (a0 : Int) (a1 : Int) (S : jSt), (0 ≤ (a0)) → (R32 (a1)) → CT G yX4_readSum cX4_readSum 4 (some .boolean) dg ([(2, a0), (0, a1)].map jval) S (g_X4_readSum a0 a1 S)) : ∀ (S : jSt), J G yX4_readIf cX4_readIf 4 (some .boolean) d S0 17 [] [] S (f_X4_readIf_b17 g_X4_readAsk g_X4_readBoth g_X4_readEither g_X4_readIf g_X4_readOne g_X4_readProduct g_X4_readSum  S) := by
  intro S
  unfold f_X4_readIf_b17
  refine j_iconst dX4_readIf_17 ?_
  exact j_zreturn jz0 dX4_readIf_18
def f_X4_readIf_b49 (g_X4_readAsk : Int → Int → jSt → Option (Int × jSt)) (g_X4_readBoth : Int → Int → jSt → Option (Int × jSt)) (g_X4_readEither : Int → Int → jSt → Option (Int × jSt)) (g_X4_readIf : Int → Int → jSt → Option (Int × jSt)) (g_X4_readOne : Int → Int → jSt → Option (Int × jSt)) (g_X4_readProduct : Int → Int → jSt → Option (Int × jSt)) (g_X4_readSum : Int → Int → jSt → Option (Int × jSt)) (S : jSt) : Option (Int × jSt) :=
  some (0, S)
theorem p_f_X4_readIf_b49 {G : jG} {d : Nat} {S0 : jSt} (hd0 : 4 ≤ d) {g_X4_readAsk : Int → Int → jSt → Option (Int × jSt)} {g_X4_readBoth : Int → Int → jSt → Option (Int × jSt)} {g_X4_readEither : Int → Int → jSt → Option (Int × jSt)} {g_X4_readIf : Int → Int → jSt → Option (Int × jSt)} {g_X4_readOne : Int → Int → jSt → Option (Int × jSt)} {g_X4_readProduct : Int → Int → jSt → Option (Int × jSt)} {g_X4_readSum : Int → Int → jSt → Option (Int × jSt)} {dg : Nat} (hdg : dg + 1 ≤ d) (q_X4_readAsk : ∀ (a0 : Int) (a1 : Int) (S : jSt), (0 ≤ (a0)) → (R32 (a1)) → CT G yX4_readAsk cX4_readAsk 3 (some .boolean) dg ([(2, a0), (0, a1)].map jval) S (g_X4_readAsk a0 a1 S)) (q_X4_readBoth : ∀ (a0 : Int) (a1 : Int) (S : jSt), (0 ≤ (a0)) → (R32 (a1)) → CT G yX4_readBoth cX4_readBoth 3 (some .boolean) dg ([(2, a0), (0, a1)].map jval) S (g_X4_readBoth a0 a1 S)) (q_X4_readEither : ∀ (a0 : Int) (a1 : Int) (S : jSt), (0 ≤ (a0)) → (R32 (a1)) → CT G yX4_readEither cX4_readEither 3 (some .boolean) dg ([(2, a0), (0, a1)].map jval) S (g_X4_readEither a0 a1 S)) (q_X4_readIf : ∀ (a0 : Int) (a1 : Int) (S : jSt), (0 ≤ (a0)) → (R32 (a1)) → CT G yX4_readIf cX4_readIf 4 (some .boolean) dg ([(2, a0), (0, a1)].map jval) S (g_X4_readIf a0 a1 S)) (q_X4_readOne : ∀ (a0 : Int) (a1 : Int) (S : jSt), (0 ≤ (a0)) → (R32 (a1)) → CT G yX4_readOne cX4_readOne 3 (some .boolean) dg ([(2, a0), (0, a1)].map jval) S (g_X4_readOne a0 a1 S)) (q_X4_readProduct : ∀ (a0 : Int) (a1 : Int) (S : jSt), (0 ≤ (a0)) → (R32 (a1)) → CT G yX4_readProduct cX4_readProduct 4 (some .boolean) dg ([(2, a0), (0, a1)].map jval) S (g_X4_readProduct a0 a1 S)) (q_X4_readSum : ∀ (a0 : Int) (a1 : Int) (S : jSt), (0 ≤ (a0)) → (R32 (a1)) → CT G yX4_readSum cX4_readSum 4 (some .boolean) dg ([(2, a0), (0, a1)].map jval) S (g_X4_readSum a0 a1 S)) : ∀ (S : jSt), J G yX4_readIf cX4_readIf 4 (some .boolean) d S0 49 [] [] S (f_X4_readIf_b49 g_X4_readAsk g_X4_readBoth g_X4_readEither g_X4_readIf g_X4_readOne g_X4_readProduct g_X4_readSum  S) := by
  intro S
  unfold f_X4_readIf_b49
  refine j_iconst dX4_readIf_49 ?_
  exact j_zreturn jz0 dX4_readIf_50
def f_X4_readIf_b86 (g_X4_readAsk : Int → Int → jSt → Option (Int × jSt)) (g_X4_readBoth : Int → Int → jSt → Option (Int × jSt)) (g_X4_readEither : Int → Int → jSt → Option (Int × jSt)) (g_X4_readIf : Int → Int → jSt → Option (Int × jSt)) (g_X4_readOne : Int → Int → jSt → Option (Int × jSt)) (g_X4_readProduct : Int → Int → jSt → Option (Int × jSt)) (g_X4_readSum : Int → Int → jSt → Option (Int × jSt)) (S : jSt) : Option (Int × jSt) :=
  some (0, S)
theorem p_f_X4_readIf_b86 {G : jG} {d : Nat} {S0 : jSt} (hd0 : 4 ≤ d) {g_X4_readAsk : Int → Int → jSt → Option (Int × jSt)} {g_X4_readBoth : Int → Int → jSt → Option (Int × jSt)} {g_X4_readEither : Int → Int → jSt → Option (Int × jSt)} {g_X4_readIf : Int → Int → jSt → Option (Int × jSt)} {g_X4_readOne : Int → Int → jSt → Option (Int × jSt)} {g_X4_readProduct : Int → Int → jSt → Option (Int × jSt)} {g_X4_readSum : Int → Int → jSt → Option (Int × jSt)} {dg : Nat} (hdg : dg + 1 ≤ d) (q_X4_readAsk : ∀ (a0 : Int) (a1 : Int) (S : jSt), (0 ≤ (a0)) → (R32 (a1)) → CT G yX4_readAsk cX4_readAsk 3 (some .boolean) dg ([(2, a0), (0, a1)].map jval) S (g_X4_readAsk a0 a1 S)) (q_X4_readBoth : ∀ (a0 : Int) (a1 : Int) (S : jSt), (0 ≤ (a0)) → (R32 (a1)) → CT G yX4_readBoth cX4_readBoth 3 (some .boolean) dg ([(2, a0), (0, a1)].map jval) S (g_X4_readBoth a0 a1 S)) (q_X4_readEither : ∀ (a0 : Int) (a1 : Int) (S : jSt), (0 ≤ (a0)) → (R32 (a1)) → CT G yX4_readEither cX4_readEither 3 (some .boolean) dg ([(2, a0), (0, a1)].map jval) S (g_X4_readEither a0 a1 S)) (q_X4_readIf : ∀ (a0 : Int) (a1 : Int) (S : jSt), (0 ≤ (a0)) → (R32 (a1)) → CT G yX4_readIf cX4_readIf 4 (some .boolean) dg ([(2, a0), (0, a1)].map jval) S (g_X4_readIf a0 a1 S)) (q_X4_readOne : ∀ (a0 : Int) (a1 : Int) (S : jSt), (0 ≤ (a0)) → (R32 (a1)) → CT G yX4_readOne cX4_readOne 3 (some .boolean) dg ([(2, a0), (0, a1)].map jval) S (g_X4_readOne a0 a1 S)) (q_X4_readProduct : ∀ (a0 : Int) (a1 : Int) (S : jSt), (0 ≤ (a0)) → (R32 (a1)) → CT G yX4_readProduct cX4_readProduct 4 (some .boolean) dg ([(2, a0), (0, a1)].map jval) S (g_X4_readProduct a0 a1 S)) (q_X4_readSum : ∀ (a0 : Int) (a1 : Int) (S : jSt), (0 ≤ (a0)) → (R32 (a1)) → CT G yX4_readSum cX4_readSum 4 (some .boolean) dg ([(2, a0), (0, a1)].map jval) S (g_X4_readSum a0 a1 S)) : ∀ (S : jSt), J G yX4_readIf cX4_readIf 4 (some .boolean) d S0 86 [] [] S (f_X4_readIf_b86 g_X4_readAsk g_X4_readBoth g_X4_readEither g_X4_readIf g_X4_readOne g_X4_readProduct g_X4_readSum  S) := by
  intro S
  unfold f_X4_readIf_b86
  refine j_iconst dX4_readIf_86 ?_
  exact j_zreturn jz0 dX4_readIf_87
def f_X4_readIf_G (g_X4_readAsk : Int → Int → jSt → Option (Int × jSt)) (g_X4_readBoth : Int → Int → jSt → Option (Int × jSt)) (g_X4_readEither : Int → Int → jSt → Option (Int × jSt)) (g_X4_readIf : Int → Int → jSt → Option (Int × jSt)) (g_X4_readOne : Int → Int → jSt → Option (Int × jSt)) (g_X4_readProduct : Int → Int → jSt → Option (Int × jSt)) (g_X4_readSum : Int → Int → jSt → Option (Int × jSt)) (a0 : Int) (a1 : Int) (S : jSt) : Option (Int × jSt) :=
  fcallv S a0 4 (g_X4_readEither a0 a1 S) (fun v1 S2 => if v1 = 0 then f_X4_readIf_b17 g_X4_readAsk g_X4_readBoth g_X4_readEither g_X4_readIf g_X4_readOne g_X4_readProduct g_X4_readSum S2 else fcallv S2 a0 4 (f_X4_readKind a0 21 S2) (fun v3 S4 => if v3 = 0 then f_X4_readIf_b17 g_X4_readAsk g_X4_readBoth g_X4_readEither g_X4_readIf g_X4_readOne g_X4_readProduct g_X4_readSum S4 else fget S4 a0 4 6 (fun v5 => fcallv S4 a0 4 (f_X4_emit a0 21 0 S4) (fun v6 S7 => fcallv S7 a0 4 (g_X4_readSum a0 a1 S7) (fun v8 S9 => if v8 = 0 then f_X4_readIf_b49 g_X4_readAsk g_X4_readBoth g_X4_readEither g_X4_readIf g_X4_readOne g_X4_readProduct g_X4_readSum S9 else fcallv S9 a0 4 (f_X4_readKind a0 22 S9) (fun v10 S11 => if v10 = 0 then f_X4_readIf_b49 g_X4_readAsk g_X4_readBoth g_X4_readEither g_X4_readIf g_X4_readOne g_X4_readProduct g_X4_readSum S11 else fget S11 a0 4 6 (fun v12 => fcallv S11 a0 4 (f_X4_emit a0 22 0 S11) (fun v13 S14 => fcallv S14 a0 4 (f_X4_aim a0 v5 S14) (fun v15 S16 => fcallv S16 a0 4 (g_X4_readSum a0 a1 S16) (fun v17 S18 => if v17 = 0 then f_X4_readIf_b86 g_X4_readAsk g_X4_readBoth g_X4_readEither g_X4_readIf g_X4_readOne g_X4_readProduct g_X4_readSum S18 else fcallv S18 a0 4 (f_X4_readKind a0 23 S18) (fun v19 S20 => if v19 = 0 then f_X4_readIf_b86 g_X4_readAsk g_X4_readBoth g_X4_readEither g_X4_readIf g_X4_readOne g_X4_readProduct g_X4_readSum S20 else fcallv S20 a0 4 (f_X4_aim a0 v12 S20) (fun v21 S22 => some (1, S22)))))))))))))
theorem e_X4_readIf_G {G : jG} {d : Nat} {S0 : jSt} (hd0 : 4 ≤ d) {g_X4_readAsk : Int → Int → jSt → Option (Int × jSt)} {g_X4_readBoth : Int → Int → jSt → Option (Int × jSt)} {g_X4_readEither : Int → Int → jSt → Option (Int × jSt)} {g_X4_readIf : Int → Int → jSt → Option (Int × jSt)} {g_X4_readOne : Int → Int → jSt → Option (Int × jSt)} {g_X4_readProduct : Int → Int → jSt → Option (Int × jSt)} {g_X4_readSum : Int → Int → jSt → Option (Int × jSt)} {dg : Nat} (hdg : dg + 1 ≤ d) (q_X4_readAsk : ∀ (a0 : Int) (a1 : Int) (S : jSt), (0 ≤ (a0)) → (R32 (a1)) → CT G yX4_readAsk cX4_readAsk 3 (some .boolean) dg ([(2, a0), (0, a1)].map jval) S (g_X4_readAsk a0 a1 S)) (q_X4_readBoth : ∀ (a0 : Int) (a1 : Int) (S : jSt), (0 ≤ (a0)) → (R32 (a1)) → CT G yX4_readBoth cX4_readBoth 3 (some .boolean) dg ([(2, a0), (0, a1)].map jval) S (g_X4_readBoth a0 a1 S)) (q_X4_readEither : ∀ (a0 : Int) (a1 : Int) (S : jSt), (0 ≤ (a0)) → (R32 (a1)) → CT G yX4_readEither cX4_readEither 3 (some .boolean) dg ([(2, a0), (0, a1)].map jval) S (g_X4_readEither a0 a1 S)) (q_X4_readIf : ∀ (a0 : Int) (a1 : Int) (S : jSt), (0 ≤ (a0)) → (R32 (a1)) → CT G yX4_readIf cX4_readIf 4 (some .boolean) dg ([(2, a0), (0, a1)].map jval) S (g_X4_readIf a0 a1 S)) (q_X4_readOne : ∀ (a0 : Int) (a1 : Int) (S : jSt), (0 ≤ (a0)) → (R32 (a1)) → CT G yX4_readOne cX4_readOne 3 (some .boolean) dg ([(2, a0), (0, a1)].map jval) S (g_X4_readOne a0 a1 S)) (q_X4_readProduct : ∀ (a0 : Int) (a1 : Int) (S : jSt), (0 ≤ (a0)) → (R32 (a1)) → CT G yX4_readProduct cX4_readProduct 4 (some .boolean) dg ([(2, a0), (0, a1)].map jval) S (g_X4_readProduct a0 a1 S)) (q_X4_readSum : ∀ (a0 : Int) (a1 : Int) (S : jSt), (0 ≤ (a0)) → (R32 (a1)) → CT G yX4_readSum cX4_readSum 4 (some .boolean) dg ([(2, a0), (0, a1)].map jval) S (g_X4_readSum a0 a1 S)) (a0 : Int) (a1 : Int) (S : jSt) (h0 : 0 ≤ (a0)) (h1 : R32 (a1)) : J G yX4_readIf cX4_readIf 4 (some .boolean) d S0 0 [(0, 2, a0), (1, 0, a1)] [] S (f_X4_readIf_G g_X4_readAsk g_X4_readBoth g_X4_readEither g_X4_readIf g_X4_readOne g_X4_readProduct g_X4_readSum a0 a1 S) := by
  unfold f_X4_readIf_G
  refine j_aload_n 0 dX4_readIf_0 rfl rfl ?_
  refine j_iload_n 1 dX4_readIf_1 rfl rfl ?_
  refine j_callV (ci := 4) (As := [(0, a1)]) (st := []) kc_X4_readEither (q_X4_readEither a0 a1 S h0 h1) rfl lm_X4_132 ki_X4_readEither ke_X4_readEither rfl (Nat.le_of_ble_eq_true rfl) hdg dX4_readIf_2 (fun (v1 : Int) (S2 : jSt) (hv1 : (v1) = 0 ∨ (v1) = 1) => ?_)
  refine j_if_eq (tgt := 17) (jZ_R hv1) dX4_readIf_5 rfl (fun _ => ?_) (fun _ => ?_)
  · refine j_sub [] rfl ?_
    exact p_f_X4_readIf_b17 hd0 hdg q_X4_readAsk q_X4_readBoth q_X4_readEither q_X4_readIf q_X4_readOne q_X4_readProduct q_X4_readSum S2
  · refine j_aload_n 0 dX4_readIf_8 rfl rfl ?_
    refine j_bipush dX4_readIf_9 (by decide) ?_
    refine j_callV (ci := 4) (As := [(0, 21)]) (st := []) kc_X4_readKind (c_X4_readKind a0 21 S2 h0 (j_r32 21 rfl)) rfl lm_X4_98 ki_X4_readKind ke_X4_readKind rfl (Nat.le_of_ble_eq_true rfl) (Nat.le_trans (m := 4) (Nat.le_of_ble_eq_true rfl) hd0) dX4_readIf_11 (fun (v3 : Int) (S4 : jSt) (hv3 : (v3) = 0 ∨ (v3) = 1) => ?_)
    refine j_if_ne (tgt := 19) (jZ_R hv3) dX4_readIf_14 rfl (fun _ => ?_) (fun _ => ?_)
    · refine j_aload_n 0 dX4_readIf_19 rfl rfl ?_
      refine j_get (ci := 4) (k := 6) (t := 0) rfl in_X4 (Nat.le_of_ble_eq_true rfl) rfl rfl fl_X4_46 dX4_readIf_20 (fun (v5 : Int) (hv5 : R32 (v5)) => ?_)
      refine j_istore_n (lv' := [(2, 0, v5), (0, 2, a0), (1, 0, a1)]) dX4_readIf_23 rfl (Nat.le_of_ble_eq_true rfl) rfl ?_
      refine j_aload_n 1 dX4_readIf_24 rfl rfl ?_
      refine j_bipush dX4_readIf_25 (by decide) ?_
      refine j_iconst dX4_readIf_27 ?_
      refine j_callV (ci := 4) (As := [(0, 21), (0, 0)]) (st := []) kc_X4_emit (c_X4_emit a0 21 0 S4 h0 (j_r32 21 rfl) (jZ_R jz0)) rfl lm_X4_116 ki_X4_emit ke_X4_emit rfl (Nat.le_of_ble_eq_true rfl) (Nat.le_trans (m := 4) (Nat.le_of_ble_eq_true rfl) hd0) dX4_readIf_28 (fun (v6 : Int) (S7 : jSt) (hv6 : (v6) = 0 ∨ (v6) = 1) => ?_)
      refine j_pop dX4_readIf_31 (fun h => nomatch h) ?_
      refine j_aload_n 1 dX4_readIf_32 rfl rfl ?_
      refine j_iload_n 2 dX4_readIf_33 rfl rfl ?_
      refine j_callV (ci := 4) (As := [(0, a1)]) (st := []) kc_X4_readSum (q_X4_readSum a0 a1 S7 h0 h1) rfl lm_X4_104 ki_X4_readSum ke_X4_readSum rfl (Nat.le_of_ble_eq_true rfl) hdg dX4_readIf_34 (fun (v8 : Int) (S9 : jSt) (hv8 : (v8) = 0 ∨ (v8) = 1) => ?_)
      refine j_if_eq (tgt := 49) (jZ_R hv8) dX4_readIf_37 rfl (fun _ => ?_) (fun _ => ?_)
      · refine j_sub [] rfl ?_
        exact p_f_X4_readIf_b49 hd0 hdg q_X4_readAsk q_X4_readBoth q_X4_readEither q_X4_readIf q_X4_readOne q_X4_readProduct q_X4_readSum S9
      · refine j_aload_n 1 dX4_readIf_40 rfl rfl ?_
        refine j_bipush dX4_readIf_41 (by decide) ?_
        refine j_callV (ci := 4) (As := [(0, 22)]) (st := []) kc_X4_readKind (c_X4_readKind a0 22 S9 h0 (j_r32 22 rfl)) rfl lm_X4_98 ki_X4_readKind ke_X4_readKind rfl (Nat.le_of_ble_eq_true rfl) (Nat.le_trans (m := 4) (Nat.le_of_ble_eq_true rfl) hd0) dX4_readIf_43 (fun (v10 : Int) (S11 : jSt) (hv10 : (v10) = 0 ∨ (v10) = 1) => ?_)
        refine j_if_ne (tgt := 51) (jZ_R hv10) dX4_readIf_46 rfl (fun _ => ?_) (fun _ => ?_)
        · refine j_aload_n 1 dX4_readIf_51 rfl rfl ?_
          refine j_get (ci := 4) (k := 6) (t := 0) rfl in_X4 (Nat.le_of_ble_eq_true rfl) rfl rfl fl_X4_46 dX4_readIf_52 (fun (v12 : Int) (hv12 : R32 (v12)) => ?_)
          refine j_istore_n (lv' := [(3, 0, v12), (2, 0, v5), (0, 2, a0), (1, 0, a1)]) dX4_readIf_55 rfl (Nat.le_of_ble_eq_true rfl) rfl ?_
          refine j_aload_n 2 dX4_readIf_56 rfl rfl ?_
          refine j_bipush dX4_readIf_57 (by decide) ?_
          refine j_iconst dX4_readIf_59 ?_
          refine j_callV (ci := 4) (As := [(0, 22), (0, 0)]) (st := []) kc_X4_emit (c_X4_emit a0 22 0 S11 h0 (j_r32 22 rfl) (jZ_R jz0)) rfl lm_X4_116 ki_X4_emit ke_X4_emit rfl (Nat.le_of_ble_eq_true rfl) (Nat.le_trans (m := 4) (Nat.le_of_ble_eq_true rfl) hd0) dX4_readIf_60 (fun (v13 : Int) (S14 : jSt) (hv13 : (v13) = 0 ∨ (v13) = 1) => ?_)
          refine j_pop dX4_readIf_63 (fun h => nomatch h) ?_
          refine j_aload_n 2 dX4_readIf_64 rfl rfl ?_
          refine j_iload_n 1 dX4_readIf_65 rfl rfl ?_
          refine j_callV (ci := 4) (As := [(0, v5)]) (st := []) kc_X4_aim (c_X4_aim a0 v5 S14 h0 hv5) rfl lm_X4_135 ki_X4_aim ke_X4_aim rfl (Nat.le_of_ble_eq_true rfl) (Nat.le_trans (m := 4) (Nat.le_of_ble_eq_true rfl) hd0) dX4_readIf_66 (fun v15 S16 _ => ?_)
          refine j_aload_n 2 dX4_readIf_69 rfl rfl ?_
          refine j_iload_n 3 dX4_readIf_70 rfl rfl ?_
          refine j_callV (ci := 4) (As := [(0, a1)]) (st := []) kc_X4_readSum (q_X4_readSum a0 a1 S16 h0 h1) rfl lm_X4_104 ki_X4_readSum ke_X4_readSum rfl (Nat.le_of_ble_eq_true rfl) hdg dX4_readIf_71 (fun (v17 : Int) (S18 : jSt) (hv17 : (v17) = 0 ∨ (v17) = 1) => ?_)
          refine j_if_eq (tgt := 86) (jZ_R hv17) dX4_readIf_74 rfl (fun _ => ?_) (fun _ => ?_)
          · refine j_sub [] rfl ?_
            exact p_f_X4_readIf_b86 hd0 hdg q_X4_readAsk q_X4_readBoth q_X4_readEither q_X4_readIf q_X4_readOne q_X4_readProduct q_X4_readSum S18
          · refine j_aload_n 2 dX4_readIf_77 rfl rfl ?_
            refine j_bipush dX4_readIf_78 (by decide) ?_
            refine j_callV (ci := 4) (As := [(0, 23)]) (st := []) kc_X4_readKind (c_X4_readKind a0 23 S18 h0 (j_r32 23 rfl)) rfl lm_X4_98 ki_X4_readKind ke_X4_readKind rfl (Nat.le_of_ble_eq_true rfl) (Nat.le_trans (m := 4) (Nat.le_of_ble_eq_true rfl) hd0) dX4_readIf_80 (fun (v19 : Int) (S20 : jSt) (hv19 : (v19) = 0 ∨ (v19) = 1) => ?_)
            refine j_if_ne (tgt := 88) (jZ_R hv19) dX4_readIf_83 rfl (fun _ => ?_) (fun _ => ?_)
            · refine j_aload_n 2 dX4_readIf_88 rfl rfl ?_
              refine j_iload_n 0 dX4_readIf_89 rfl rfl ?_
              refine j_callV (ci := 4) (As := [(0, v12)]) (st := []) kc_X4_aim (c_X4_aim a0 v12 S20 h0 hv12) rfl lm_X4_135 ki_X4_aim ke_X4_aim rfl (Nat.le_of_ble_eq_true rfl) (Nat.le_trans (m := 4) (Nat.le_of_ble_eq_true rfl) hd0) dX4_readIf_90 (fun v21 S22 _ => ?_)
              refine j_iconst dX4_readIf_93 ?_
              exact j_zreturn jz1 dX4_readIf_94
            · refine j_sub [] rfl ?_
              exact p_f_X4_readIf_b86 hd0 hdg q_X4_readAsk q_X4_readBoth q_X4_readEither q_X4_readIf q_X4_readOne q_X4_readProduct q_X4_readSum S20
        · refine j_sub [] rfl ?_
          exact p_f_X4_readIf_b49 hd0 hdg q_X4_readAsk q_X4_readBoth q_X4_readEither q_X4_readIf q_X4_readOne q_X4_readProduct q_X4_readSum S11
    · refine j_sub [] rfl ?_
      exact p_f_X4_readIf_b17 hd0 hdg q_X4_readAsk q_X4_readBoth q_X4_readEither q_X4_readIf q_X4_readOne q_X4_readProduct q_X4_readSum S4
def f_X4_readOne_b257 (g_X4_readAsk : Int → Int → jSt → Option (Int × jSt)) (g_X4_readBoth : Int → Int → jSt → Option (Int × jSt)) (g_X4_readEither : Int → Int → jSt → Option (Int × jSt)) (g_X4_readIf : Int → Int → jSt → Option (Int × jSt)) (g_X4_readOne : Int → Int → jSt → Option (Int × jSt)) (g_X4_readProduct : Int → Int → jSt → Option (Int × jSt)) (g_X4_readSum : Int → Int → jSt → Option (Int × jSt)) (x0 : Int) (S : jSt) : Option (Int × jSt) :=
  some (x0, S)
theorem p_f_X4_readOne_b257 {G : jG} {d : Nat} {S0 : jSt} (hd0 : 4 ≤ d) {g_X4_readAsk : Int → Int → jSt → Option (Int × jSt)} {g_X4_readBoth : Int → Int → jSt → Option (Int × jSt)} {g_X4_readEither : Int → Int → jSt → Option (Int × jSt)} {g_X4_readIf : Int → Int → jSt → Option (Int × jSt)} {g_X4_readOne : Int → Int → jSt → Option (Int × jSt)} {g_X4_readProduct : Int → Int → jSt → Option (Int × jSt)} {g_X4_readSum : Int → Int → jSt → Option (Int × jSt)} {dg : Nat} (hdg : dg + 1 ≤ d) (q_X4_readAsk : ∀ (a0 : Int) (a1 : Int) (S : jSt), (0 ≤ (a0)) → (R32 (a1)) → CT G yX4_readAsk cX4_readAsk 3 (some .boolean) dg ([(2, a0), (0, a1)].map jval) S (g_X4_readAsk a0 a1 S)) (q_X4_readBoth : ∀ (a0 : Int) (a1 : Int) (S : jSt), (0 ≤ (a0)) → (R32 (a1)) → CT G yX4_readBoth cX4_readBoth 3 (some .boolean) dg ([(2, a0), (0, a1)].map jval) S (g_X4_readBoth a0 a1 S)) (q_X4_readEither : ∀ (a0 : Int) (a1 : Int) (S : jSt), (0 ≤ (a0)) → (R32 (a1)) → CT G yX4_readEither cX4_readEither 3 (some .boolean) dg ([(2, a0), (0, a1)].map jval) S (g_X4_readEither a0 a1 S)) (q_X4_readIf : ∀ (a0 : Int) (a1 : Int) (S : jSt), (0 ≤ (a0)) → (R32 (a1)) → CT G yX4_readIf cX4_readIf 4 (some .boolean) dg ([(2, a0), (0, a1)].map jval) S (g_X4_readIf a0 a1 S)) (q_X4_readOne : ∀ (a0 : Int) (a1 : Int) (S : jSt), (0 ≤ (a0)) → (R32 (a1)) → CT G yX4_readOne cX4_readOne 3 (some .boolean) dg ([(2, a0), (0, a1)].map jval) S (g_X4_readOne a0 a1 S)) (q_X4_readProduct : ∀ (a0 : Int) (a1 : Int) (S : jSt), (0 ≤ (a0)) → (R32 (a1)) → CT G yX4_readProduct cX4_readProduct 4 (some .boolean) dg ([(2, a0), (0, a1)].map jval) S (g_X4_readProduct a0 a1 S)) (q_X4_readSum : ∀ (a0 : Int) (a1 : Int) (S : jSt), (0 ≤ (a0)) → (R32 (a1)) → CT G yX4_readSum cX4_readSum 4 (some .boolean) dg ([(2, a0), (0, a1)].map jval) S (g_X4_readSum a0 a1 S)) : ∀ (x0 : Int) (S : jSt), ((x0) = 0 ∨ (x0) = 1) → J G yX4_readOne cX4_readOne 3 (some .boolean) d S0 257 [] [(0, x0)] S (f_X4_readOne_b257 g_X4_readAsk g_X4_readBoth g_X4_readEither g_X4_readIf g_X4_readOne g_X4_readProduct g_X4_readSum x0 S) := by
  intro x0 S h0
  unfold f_X4_readOne_b257
  exact j_zreturn h0 dX4_readOne_257
def f_X4_readOne_b256 (g_X4_readAsk : Int → Int → jSt → Option (Int × jSt)) (g_X4_readBoth : Int → Int → jSt → Option (Int × jSt)) (g_X4_readEither : Int → Int → jSt → Option (Int × jSt)) (g_X4_readIf : Int → Int → jSt → Option (Int × jSt)) (g_X4_readOne : Int → Int → jSt → Option (Int × jSt)) (g_X4_readProduct : Int → Int → jSt → Option (Int × jSt)) (g_X4_readSum : Int → Int → jSt → Option (Int × jSt)) (S : jSt) : Option (Int × jSt) :=
  f_X4_readOne_b257 g_X4_readAsk g_X4_readBoth g_X4_readEither g_X4_readIf g_X4_readOne g_X4_readProduct g_X4_readSum 0 S
theorem p_f_X4_readOne_b256 {G : jG} {d : Nat} {S0 : jSt} (hd0 : 4 ≤ d) {g_X4_readAsk : Int → Int → jSt → Option (Int × jSt)} {g_X4_readBoth : Int → Int → jSt → Option (Int × jSt)} {g_X4_readEither : Int → Int → jSt → Option (Int × jSt)} {g_X4_readIf : Int → Int → jSt → Option (Int × jSt)} {g_X4_readOne : Int → Int → jSt → Option (Int × jSt)} {g_X4_readProduct : Int → Int → jSt → Option (Int × jSt)} {g_X4_readSum : Int → Int → jSt → Option (Int × jSt)} {dg : Nat} (hdg : dg + 1 ≤ d) (q_X4_readAsk : ∀ (a0 : Int) (a1 : Int) (S : jSt), (0 ≤ (a0)) → (R32 (a1)) → CT G yX4_readAsk cX4_readAsk 3 (some .boolean) dg ([(2, a0), (0, a1)].map jval) S (g_X4_readAsk a0 a1 S)) (q_X4_readBoth : ∀ (a0 : Int) (a1 : Int) (S : jSt), (0 ≤ (a0)) → (R32 (a1)) → CT G yX4_readBoth cX4_readBoth 3 (some .boolean) dg ([(2, a0), (0, a1)].map jval) S (g_X4_readBoth a0 a1 S)) (q_X4_readEither : ∀ (a0 : Int) (a1 : Int) (S : jSt), (0 ≤ (a0)) → (R32 (a1)) → CT G yX4_readEither cX4_readEither 3 (some .boolean) dg ([(2, a0), (0, a1)].map jval) S (g_X4_readEither a0 a1 S)) (q_X4_readIf : ∀ (a0 : Int) (a1 : Int) (S : jSt), (0 ≤ (a0)) → (R32 (a1)) → CT G yX4_readIf cX4_readIf 4 (some .boolean) dg ([(2, a0), (0, a1)].map jval) S (g_X4_readIf a0 a1 S)) (q_X4_readOne : ∀ (a0 : Int) (a1 : Int) (S : jSt), (0 ≤ (a0)) → (R32 (a1)) → CT G yX4_readOne cX4_readOne 3 (some .boolean) dg ([(2, a0), (0, a1)].map jval) S (g_X4_readOne a0 a1 S)) (q_X4_readProduct : ∀ (a0 : Int) (a1 : Int) (S : jSt), (0 ≤ (a0)) → (R32 (a1)) → CT G yX4_readProduct cX4_readProduct 4 (some .boolean) dg ([(2, a0), (0, a1)].map jval) S (g_X4_readProduct a0 a1 S)) (q_X4_readSum : ∀ (a0 : Int) (a1 : Int) (S : jSt), (0 ≤ (a0)) → (R32 (a1)) → CT G yX4_readSum cX4_readSum 4 (some .boolean) dg ([(2, a0), (0, a1)].map jval) S (g_X4_readSum a0 a1 S)) : ∀ (S : jSt), J G yX4_readOne cX4_readOne 3 (some .boolean) d S0 256 [] [] S (f_X4_readOne_b256 g_X4_readAsk g_X4_readBoth g_X4_readEither g_X4_readIf g_X4_readOne g_X4_readProduct g_X4_readSum  S) := by
  intro S
  unfold f_X4_readOne_b256
  refine j_iconst dX4_readOne_256 ?_
  exact p_f_X4_readOne_b257 hd0 hdg q_X4_readAsk q_X4_readBoth q_X4_readEither q_X4_readIf q_X4_readOne q_X4_readProduct q_X4_readSum 0 S jz0
def f_X4_readOne_b212 (g_X4_readAsk : Int → Int → jSt → Option (Int × jSt)) (g_X4_readBoth : Int → Int → jSt → Option (Int × jSt)) (g_X4_readEither : Int → Int → jSt → Option (Int × jSt)) (g_X4_readIf : Int → Int → jSt → Option (Int × jSt)) (g_X4_readOne : Int → Int → jSt → Option (Int × jSt)) (g_X4_readProduct : Int → Int → jSt → Option (Int × jSt)) (g_X4_readSum : Int → Int → jSt → Option (Int × jSt)) (x0 : Int) (S : jSt) : Option (Int × jSt) :=
  some (x0, S)
theorem p_f_X4_readOne_b212 {G : jG} {d : Nat} {S0 : jSt} (hd0 : 4 ≤ d) {g_X4_readAsk : Int → Int → jSt → Option (Int × jSt)} {g_X4_readBoth : Int → Int → jSt → Option (Int × jSt)} {g_X4_readEither : Int → Int → jSt → Option (Int × jSt)} {g_X4_readIf : Int → Int → jSt → Option (Int × jSt)} {g_X4_readOne : Int → Int → jSt → Option (Int × jSt)} {g_X4_readProduct : Int → Int → jSt → Option (Int × jSt)} {g_X4_readSum : Int → Int → jSt → Option (Int × jSt)} {dg : Nat} (hdg : dg + 1 ≤ d) (q_X4_readAsk : ∀ (a0 : Int) (a1 : Int) (S : jSt), (0 ≤ (a0)) → (R32 (a1)) → CT G yX4_readAsk cX4_readAsk 3 (some .boolean) dg ([(2, a0), (0, a1)].map jval) S (g_X4_readAsk a0 a1 S)) (q_X4_readBoth : ∀ (a0 : Int) (a1 : Int) (S : jSt), (0 ≤ (a0)) → (R32 (a1)) → CT G yX4_readBoth cX4_readBoth 3 (some .boolean) dg ([(2, a0), (0, a1)].map jval) S (g_X4_readBoth a0 a1 S)) (q_X4_readEither : ∀ (a0 : Int) (a1 : Int) (S : jSt), (0 ≤ (a0)) → (R32 (a1)) → CT G yX4_readEither cX4_readEither 3 (some .boolean) dg ([(2, a0), (0, a1)].map jval) S (g_X4_readEither a0 a1 S)) (q_X4_readIf : ∀ (a0 : Int) (a1 : Int) (S : jSt), (0 ≤ (a0)) → (R32 (a1)) → CT G yX4_readIf cX4_readIf 4 (some .boolean) dg ([(2, a0), (0, a1)].map jval) S (g_X4_readIf a0 a1 S)) (q_X4_readOne : ∀ (a0 : Int) (a1 : Int) (S : jSt), (0 ≤ (a0)) → (R32 (a1)) → CT G yX4_readOne cX4_readOne 3 (some .boolean) dg ([(2, a0), (0, a1)].map jval) S (g_X4_readOne a0 a1 S)) (q_X4_readProduct : ∀ (a0 : Int) (a1 : Int) (S : jSt), (0 ≤ (a0)) → (R32 (a1)) → CT G yX4_readProduct cX4_readProduct 4 (some .boolean) dg ([(2, a0), (0, a1)].map jval) S (g_X4_readProduct a0 a1 S)) (q_X4_readSum : ∀ (a0 : Int) (a1 : Int) (S : jSt), (0 ≤ (a0)) → (R32 (a1)) → CT G yX4_readSum cX4_readSum 4 (some .boolean) dg ([(2, a0), (0, a1)].map jval) S (g_X4_readSum a0 a1 S)) : ∀ (x0 : Int) (S : jSt), ((x0) = 0 ∨ (x0) = 1) → J G yX4_readOne cX4_readOne 3 (some .boolean) d S0 212 [] [(0, x0)] S (f_X4_readOne_b212 g_X4_readAsk g_X4_readBoth g_X4_readEither g_X4_readIf g_X4_readOne g_X4_readProduct g_X4_readSum x0 S) := by
  intro x0 S h0
  unfold f_X4_readOne_b212
  exact j_zreturn h0 dX4_readOne_212
def f_X4_readOne_b211 (g_X4_readAsk : Int → Int → jSt → Option (Int × jSt)) (g_X4_readBoth : Int → Int → jSt → Option (Int × jSt)) (g_X4_readEither : Int → Int → jSt → Option (Int × jSt)) (g_X4_readIf : Int → Int → jSt → Option (Int × jSt)) (g_X4_readOne : Int → Int → jSt → Option (Int × jSt)) (g_X4_readProduct : Int → Int → jSt → Option (Int × jSt)) (g_X4_readSum : Int → Int → jSt → Option (Int × jSt)) (S : jSt) : Option (Int × jSt) :=
  f_X4_readOne_b212 g_X4_readAsk g_X4_readBoth g_X4_readEither g_X4_readIf g_X4_readOne g_X4_readProduct g_X4_readSum 0 S
theorem p_f_X4_readOne_b211 {G : jG} {d : Nat} {S0 : jSt} (hd0 : 4 ≤ d) {g_X4_readAsk : Int → Int → jSt → Option (Int × jSt)} {g_X4_readBoth : Int → Int → jSt → Option (Int × jSt)} {g_X4_readEither : Int → Int → jSt → Option (Int × jSt)} {g_X4_readIf : Int → Int → jSt → Option (Int × jSt)} {g_X4_readOne : Int → Int → jSt → Option (Int × jSt)} {g_X4_readProduct : Int → Int → jSt → Option (Int × jSt)} {g_X4_readSum : Int → Int → jSt → Option (Int × jSt)} {dg : Nat} (hdg : dg + 1 ≤ d) (q_X4_readAsk : ∀ (a0 : Int) (a1 : Int) (S : jSt), (0 ≤ (a0)) → (R32 (a1)) → CT G yX4_readAsk cX4_readAsk 3 (some .boolean) dg ([(2, a0), (0, a1)].map jval) S (g_X4_readAsk a0 a1 S)) (q_X4_readBoth : ∀ (a0 : Int) (a1 : Int) (S : jSt), (0 ≤ (a0)) → (R32 (a1)) → CT G yX4_readBoth cX4_readBoth 3 (some .boolean) dg ([(2, a0), (0, a1)].map jval) S (g_X4_readBoth a0 a1 S)) (q_X4_readEither : ∀ (a0 : Int) (a1 : Int) (S : jSt), (0 ≤ (a0)) → (R32 (a1)) → CT G yX4_readEither cX4_readEither 3 (some .boolean) dg ([(2, a0), (0, a1)].map jval) S (g_X4_readEither a0 a1 S)) (q_X4_readIf : ∀ (a0 : Int) (a1 : Int) (S : jSt), (0 ≤ (a0)) → (R32 (a1)) → CT G yX4_readIf cX4_readIf 4 (some .boolean) dg ([(2, a0), (0, a1)].map jval) S (g_X4_readIf a0 a1 S)) (q_X4_readOne : ∀ (a0 : Int) (a1 : Int) (S : jSt), (0 ≤ (a0)) → (R32 (a1)) → CT G yX4_readOne cX4_readOne 3 (some .boolean) dg ([(2, a0), (0, a1)].map jval) S (g_X4_readOne a0 a1 S)) (q_X4_readProduct : ∀ (a0 : Int) (a1 : Int) (S : jSt), (0 ≤ (a0)) → (R32 (a1)) → CT G yX4_readProduct cX4_readProduct 4 (some .boolean) dg ([(2, a0), (0, a1)].map jval) S (g_X4_readProduct a0 a1 S)) (q_X4_readSum : ∀ (a0 : Int) (a1 : Int) (S : jSt), (0 ≤ (a0)) → (R32 (a1)) → CT G yX4_readSum cX4_readSum 4 (some .boolean) dg ([(2, a0), (0, a1)].map jval) S (g_X4_readSum a0 a1 S)) : ∀ (S : jSt), J G yX4_readOne cX4_readOne 3 (some .boolean) d S0 211 [] [] S (f_X4_readOne_b211 g_X4_readAsk g_X4_readBoth g_X4_readEither g_X4_readIf g_X4_readOne g_X4_readProduct g_X4_readSum  S) := by
  intro S
  unfold f_X4_readOne_b211
  refine j_iconst dX4_readOne_211 ?_
  exact p_f_X4_readOne_b212 hd0 hdg q_X4_readAsk q_X4_readBoth q_X4_readEither q_X4_readIf q_X4_readOne q_X4_readProduct q_X4_readSum 0 S jz0
def f_X4_readOne_b186 (g_X4_readAsk : Int → Int → jSt → Option (Int × jSt)) (g_X4_readBoth : Int → Int → jSt → Option (Int × jSt)) (g_X4_readEither : Int → Int → jSt → Option (Int × jSt)) (g_X4_readIf : Int → Int → jSt → Option (Int × jSt)) (g_X4_readOne : Int → Int → jSt → Option (Int × jSt)) (g_X4_readProduct : Int → Int → jSt → Option (Int × jSt)) (g_X4_readSum : Int → Int → jSt → Option (Int × jSt)) (x0 : Int) (S : jSt) : Option (Int × jSt) :=
  some (x0, S)
theorem p_f_X4_readOne_b186 {G : jG} {d : Nat} {S0 : jSt} (hd0 : 4 ≤ d) {g_X4_readAsk : Int → Int → jSt → Option (Int × jSt)} {g_X4_readBoth : Int → Int → jSt → Option (Int × jSt)} {g_X4_readEither : Int → Int → jSt → Option (Int × jSt)} {g_X4_readIf : Int → Int → jSt → Option (Int × jSt)} {g_X4_readOne : Int → Int → jSt → Option (Int × jSt)} {g_X4_readProduct : Int → Int → jSt → Option (Int × jSt)} {g_X4_readSum : Int → Int → jSt → Option (Int × jSt)} {dg : Nat} (hdg : dg + 1 ≤ d) (q_X4_readAsk : ∀ (a0 : Int) (a1 : Int) (S : jSt), (0 ≤ (a0)) → (R32 (a1)) → CT G yX4_readAsk cX4_readAsk 3 (some .boolean) dg ([(2, a0), (0, a1)].map jval) S (g_X4_readAsk a0 a1 S)) (q_X4_readBoth : ∀ (a0 : Int) (a1 : Int) (S : jSt), (0 ≤ (a0)) → (R32 (a1)) → CT G yX4_readBoth cX4_readBoth 3 (some .boolean) dg ([(2, a0), (0, a1)].map jval) S (g_X4_readBoth a0 a1 S)) (q_X4_readEither : ∀ (a0 : Int) (a1 : Int) (S : jSt), (0 ≤ (a0)) → (R32 (a1)) → CT G yX4_readEither cX4_readEither 3 (some .boolean) dg ([(2, a0), (0, a1)].map jval) S (g_X4_readEither a0 a1 S)) (q_X4_readIf : ∀ (a0 : Int) (a1 : Int) (S : jSt), (0 ≤ (a0)) → (R32 (a1)) → CT G yX4_readIf cX4_readIf 4 (some .boolean) dg ([(2, a0), (0, a1)].map jval) S (g_X4_readIf a0 a1 S)) (q_X4_readOne : ∀ (a0 : Int) (a1 : Int) (S : jSt), (0 ≤ (a0)) → (R32 (a1)) → CT G yX4_readOne cX4_readOne 3 (some .boolean) dg ([(2, a0), (0, a1)].map jval) S (g_X4_readOne a0 a1 S)) (q_X4_readProduct : ∀ (a0 : Int) (a1 : Int) (S : jSt), (0 ≤ (a0)) → (R32 (a1)) → CT G yX4_readProduct cX4_readProduct 4 (some .boolean) dg ([(2, a0), (0, a1)].map jval) S (g_X4_readProduct a0 a1 S)) (q_X4_readSum : ∀ (a0 : Int) (a1 : Int) (S : jSt), (0 ≤ (a0)) → (R32 (a1)) → CT G yX4_readSum cX4_readSum 4 (some .boolean) dg ([(2, a0), (0, a1)].map jval) S (g_X4_readSum a0 a1 S)) : ∀ (x0 : Int) (S : jSt), ((x0) = 0 ∨ (x0) = 1) → J G yX4_readOne cX4_readOne 3 (some .boolean) d S0 186 [] [(0, x0)] S (f_X4_readOne_b186 g_X4_readAsk g_X4_readBoth g_X4_readEither g_X4_readIf g_X4_readOne g_X4_readProduct g_X4_readSum x0 S) := by
  intro x0 S h0
  unfold f_X4_readOne_b186
  exact j_zreturn h0 dX4_readOne_186
def f_X4_readOne_b185 (g_X4_readAsk : Int → Int → jSt → Option (Int × jSt)) (g_X4_readBoth : Int → Int → jSt → Option (Int × jSt)) (g_X4_readEither : Int → Int → jSt → Option (Int × jSt)) (g_X4_readIf : Int → Int → jSt → Option (Int × jSt)) (g_X4_readOne : Int → Int → jSt → Option (Int × jSt)) (g_X4_readProduct : Int → Int → jSt → Option (Int × jSt)) (g_X4_readSum : Int → Int → jSt → Option (Int × jSt)) (S : jSt) : Option (Int × jSt) :=
  f_X4_readOne_b186 g_X4_readAsk g_X4_readBoth g_X4_readEither g_X4_readIf g_X4_readOne g_X4_readProduct g_X4_readSum 0 S
theorem p_f_X4_readOne_b185 {G : jG} {d : Nat} {S0 : jSt} (hd0 : 4 ≤ d) {g_X4_readAsk : Int → Int → jSt → Option (Int × jSt)} {g_X4_readBoth : Int → Int → jSt → Option (Int × jSt)} {g_X4_readEither : Int → Int → jSt → Option (Int × jSt)} {g_X4_readIf : Int → Int → jSt → Option (Int × jSt)} {g_X4_readOne : Int → Int → jSt → Option (Int × jSt)} {g_X4_readProduct : Int → Int → jSt → Option (Int × jSt)} {g_X4_readSum : Int → Int → jSt → Option (Int × jSt)} {dg : Nat} (hdg : dg + 1 ≤ d) (q_X4_readAsk : ∀ (a0 : Int) (a1 : Int) (S : jSt), (0 ≤ (a0)) → (R32 (a1)) → CT G yX4_readAsk cX4_readAsk 3 (some .boolean) dg ([(2, a0), (0, a1)].map jval) S (g_X4_readAsk a0 a1 S)) (q_X4_readBoth : ∀ (a0 : Int) (a1 : Int) (S : jSt), (0 ≤ (a0)) → (R32 (a1)) → CT G yX4_readBoth cX4_readBoth 3 (some .boolean) dg ([(2, a0), (0, a1)].map jval) S (g_X4_readBoth a0 a1 S)) (q_X4_readEither : ∀ (a0 : Int) (a1 : Int) (S : jSt), (0 ≤ (a0)) → (R32 (a1)) → CT G yX4_readEither cX4_readEither 3 (some .boolean) dg ([(2, a0), (0, a1)].map jval) S (g_X4_readEither a0 a1 S)) (q_X4_readIf : ∀ (a0 : Int) (a1 : Int) (S : jSt), (0 ≤ (a0)) → (R32 (a1)) → CT G yX4_readIf cX4_readIf 4 (some .boolean) dg ([(2, a0), (0, a1)].map jval) S (g_X4_readIf a0 a1 S)) (q_X4_readOne : ∀ (a0 : Int) (a1 : Int) (S : jSt), (0 ≤ (a0)) → (R32 (a1)) → CT G yX4_readOne cX4_readOne 3 (some .boolean) dg ([(2, a0), (0, a1)].map jval) S (g_X4_readOne a0 a1 S)) (q_X4_readProduct : ∀ (a0 : Int) (a1 : Int) (S : jSt), (0 ≤ (a0)) → (R32 (a1)) → CT G yX4_readProduct cX4_readProduct 4 (some .boolean) dg ([(2, a0), (0, a1)].map jval) S (g_X4_readProduct a0 a1 S)) (q_X4_readSum : ∀ (a0 : Int) (a1 : Int) (S : jSt), (0 ≤ (a0)) → (R32 (a1)) → CT G yX4_readSum cX4_readSum 4 (some .boolean) dg ([(2, a0), (0, a1)].map jval) S (g_X4_readSum a0 a1 S)) : ∀ (S : jSt), J G yX4_readOne cX4_readOne 3 (some .boolean) d S0 185 [] [] S (f_X4_readOne_b185 g_X4_readAsk g_X4_readBoth g_X4_readEither g_X4_readIf g_X4_readOne g_X4_readProduct g_X4_readSum  S) := by
  intro S
  unfold f_X4_readOne_b185
  refine j_iconst dX4_readOne_185 ?_
  exact p_f_X4_readOne_b186 hd0 hdg q_X4_readAsk q_X4_readBoth q_X4_readEither q_X4_readIf q_X4_readOne q_X4_readProduct q_X4_readSum 0 S jz0
def f_X4_readOne_b160 (g_X4_readAsk : Int → Int → jSt → Option (Int × jSt)) (g_X4_readBoth : Int → Int → jSt → Option (Int × jSt)) (g_X4_readEither : Int → Int → jSt → Option (Int × jSt)) (g_X4_readIf : Int → Int → jSt → Option (Int × jSt)) (g_X4_readOne : Int → Int → jSt → Option (Int × jSt)) (g_X4_readProduct : Int → Int → jSt → Option (Int × jSt)) (g_X4_readSum : Int → Int → jSt → Option (Int × jSt)) (x0 : Int) (S : jSt) : Option (Int × jSt) :=
  some (x0, S)
theorem p_f_X4_readOne_b160 {G : jG} {d : Nat} {S0 : jSt} (hd0 : 4 ≤ d) {g_X4_readAsk : Int → Int → jSt → Option (Int × jSt)} {g_X4_readBoth : Int → Int → jSt → Option (Int × jSt)} {g_X4_readEither : Int → Int → jSt → Option (Int × jSt)} {g_X4_readIf : Int → Int → jSt → Option (Int × jSt)} {g_X4_readOne : Int → Int → jSt → Option (Int × jSt)} {g_X4_readProduct : Int → Int → jSt → Option (Int × jSt)} {g_X4_readSum : Int → Int → jSt → Option (Int × jSt)} {dg : Nat} (hdg : dg + 1 ≤ d) (q_X4_readAsk : ∀ (a0 : Int) (a1 : Int) (S : jSt), (0 ≤ (a0)) → (R32 (a1)) → CT G yX4_readAsk cX4_readAsk 3 (some .boolean) dg ([(2, a0), (0, a1)].map jval) S (g_X4_readAsk a0 a1 S)) (q_X4_readBoth : ∀ (a0 : Int) (a1 : Int) (S : jSt), (0 ≤ (a0)) → (R32 (a1)) → CT G yX4_readBoth cX4_readBoth 3 (some .boolean) dg ([(2, a0), (0, a1)].map jval) S (g_X4_readBoth a0 a1 S)) (q_X4_readEither : ∀ (a0 : Int) (a1 : Int) (S : jSt), (0 ≤ (a0)) → (R32 (a1)) → CT G yX4_readEither cX4_readEither 3 (some .boolean) dg ([(2, a0), (0, a1)].map jval) S (g_X4_readEither a0 a1 S)) (q_X4_readIf : ∀ (a0 : Int) (a1 : Int) (S : jSt), (0 ≤ (a0)) → (R32 (a1)) → CT G yX4_readIf cX4_readIf 4 (some .boolean) dg ([(2, a0), (0, a1)].map jval) S (g_X4_readIf a0 a1 S)) (q_X4_readOne : ∀ (a0 : Int) (a1 : Int) (S : jSt), (0 ≤ (a0)) → (R32 (a1)) → CT G yX4_readOne cX4_readOne 3 (some .boolean) dg ([(2, a0), (0, a1)].map jval) S (g_X4_readOne a0 a1 S)) (q_X4_readProduct : ∀ (a0 : Int) (a1 : Int) (S : jSt), (0 ≤ (a0)) → (R32 (a1)) → CT G yX4_readProduct cX4_readProduct 4 (some .boolean) dg ([(2, a0), (0, a1)].map jval) S (g_X4_readProduct a0 a1 S)) (q_X4_readSum : ∀ (a0 : Int) (a1 : Int) (S : jSt), (0 ≤ (a0)) → (R32 (a1)) → CT G yX4_readSum cX4_readSum 4 (some .boolean) dg ([(2, a0), (0, a1)].map jval) S (g_X4_readSum a0 a1 S)) : ∀ (x0 : Int) (S : jSt), ((x0) = 0 ∨ (x0) = 1) → J G yX4_readOne cX4_readOne 3 (some .boolean) d S0 160 [] [(0, x0)] S (f_X4_readOne_b160 g_X4_readAsk g_X4_readBoth g_X4_readEither g_X4_readIf g_X4_readOne g_X4_readProduct g_X4_readSum x0 S) := by
  intro x0 S h0
  unfold f_X4_readOne_b160
  exact j_zreturn h0 dX4_readOne_160
def f_X4_readOne_b159 (g_X4_readAsk : Int → Int → jSt → Option (Int × jSt)) (g_X4_readBoth : Int → Int → jSt → Option (Int × jSt)) (g_X4_readEither : Int → Int → jSt → Option (Int × jSt)) (g_X4_readIf : Int → Int → jSt → Option (Int × jSt)) (g_X4_readOne : Int → Int → jSt → Option (Int × jSt)) (g_X4_readProduct : Int → Int → jSt → Option (Int × jSt)) (g_X4_readSum : Int → Int → jSt → Option (Int × jSt)) (S : jSt) : Option (Int × jSt) :=
  f_X4_readOne_b160 g_X4_readAsk g_X4_readBoth g_X4_readEither g_X4_readIf g_X4_readOne g_X4_readProduct g_X4_readSum 0 S
theorem p_f_X4_readOne_b159 {G : jG} {d : Nat} {S0 : jSt} (hd0 : 4 ≤ d) {g_X4_readAsk : Int → Int → jSt → Option (Int × jSt)} {g_X4_readBoth : Int → Int → jSt → Option (Int × jSt)} {g_X4_readEither : Int → Int → jSt → Option (Int × jSt)} {g_X4_readIf : Int → Int → jSt → Option (Int × jSt)} {g_X4_readOne : Int → Int → jSt → Option (Int × jSt)} {g_X4_readProduct : Int → Int → jSt → Option (Int × jSt)} {g_X4_readSum : Int → Int → jSt → Option (Int × jSt)} {dg : Nat} (hdg : dg + 1 ≤ d) (q_X4_readAsk : ∀ (a0 : Int) (a1 : Int) (S : jSt), (0 ≤ (a0)) → (R32 (a1)) → CT G yX4_readAsk cX4_readAsk 3 (some .boolean) dg ([(2, a0), (0, a1)].map jval) S (g_X4_readAsk a0 a1 S)) (q_X4_readBoth : ∀ (a0 : Int) (a1 : Int) (S : jSt), (0 ≤ (a0)) → (R32 (a1)) → CT G yX4_readBoth cX4_readBoth 3 (some .boolean) dg ([(2, a0), (0, a1)].map jval) S (g_X4_readBoth a0 a1 S)) (q_X4_readEither : ∀ (a0 : Int) (a1 : Int) (S : jSt), (0 ≤ (a0)) → (R32 (a1)) → CT G yX4_readEither cX4_readEither 3 (some .boolean) dg ([(2, a0), (0, a1)].map jval) S (g_X4_readEither a0 a1 S)) (q_X4_readIf : ∀ (a0 : Int) (a1 : Int) (S : jSt), (0 ≤ (a0)) → (R32 (a1)) → CT G yX4_readIf cX4_readIf 4 (some .boolean) dg ([(2, a0), (0, a1)].map jval) S (g_X4_readIf a0 a1 S)) (q_X4_readOne : ∀ (a0 : Int) (a1 : Int) (S : jSt), (0 ≤ (a0)) → (R32 (a1)) → CT G yX4_readOne cX4_readOne 3 (some .boolean) dg ([(2, a0), (0, a1)].map jval) S (g_X4_readOne a0 a1 S)) (q_X4_readProduct : ∀ (a0 : Int) (a1 : Int) (S : jSt), (0 ≤ (a0)) → (R32 (a1)) → CT G yX4_readProduct cX4_readProduct 4 (some .boolean) dg ([(2, a0), (0, a1)].map jval) S (g_X4_readProduct a0 a1 S)) (q_X4_readSum : ∀ (a0 : Int) (a1 : Int) (S : jSt), (0 ≤ (a0)) → (R32 (a1)) → CT G yX4_readSum cX4_readSum 4 (some .boolean) dg ([(2, a0), (0, a1)].map jval) S (g_X4_readSum a0 a1 S)) : ∀ (S : jSt), J G yX4_readOne cX4_readOne 3 (some .boolean) d S0 159 [] [] S (f_X4_readOne_b159 g_X4_readAsk g_X4_readBoth g_X4_readEither g_X4_readIf g_X4_readOne g_X4_readProduct g_X4_readSum  S) := by
  intro S
  unfold f_X4_readOne_b159
  refine j_iconst dX4_readOne_159 ?_
  exact p_f_X4_readOne_b160 hd0 hdg q_X4_readAsk q_X4_readBoth q_X4_readEither q_X4_readIf q_X4_readOne q_X4_readProduct q_X4_readSum 0 S jz0
def f_X4_readOne_b69 (g_X4_readAsk : Int → Int → jSt → Option (Int × jSt)) (g_X4_readBoth : Int → Int → jSt → Option (Int × jSt)) (g_X4_readEither : Int → Int → jSt → Option (Int × jSt)) (g_X4_readIf : Int → Int → jSt → Option (Int × jSt)) (g_X4_readOne : Int → Int → jSt → Option (Int × jSt)) (g_X4_readProduct : Int → Int → jSt → Option (Int × jSt)) (g_X4_readSum : Int → Int → jSt → Option (Int × jSt)) (x0 : Int) (x1 : Int) (x2 : Int) (S : jSt) : Option (Int × jSt) :=
  if x1 < 8 then fget S x0 4 3 (fun v5 => fput S x0 4 3 (w32 (v5 + 1)) (fun S6 => if x2 = 26 then fcallv S6 x0 4 (g_X4_readOne x0 (w32 (x1 + 1)) S6) (fun v7 S8 => if v7 = 0 then f_X4_readOne_b256 g_X4_readAsk g_X4_readBoth g_X4_readEither g_X4_readIf g_X4_readOne g_X4_readProduct g_X4_readSum S8 else fcallv S8 x0 4 (f_X4_readKind x0 19 S8) (fun v9 S10 => if v9 = 0 then f_X4_readOne_b256 g_X4_readAsk g_X4_readBoth g_X4_readEither g_X4_readIf g_X4_readOne g_X4_readProduct g_X4_readSum S10 else fcallv S10 x0 4 (g_X4_readOne x0 (w32 (x1 + 1)) S10) (fun v11 S12 => if v11 = 0 then f_X4_readOne_b256 g_X4_readAsk g_X4_readBoth g_X4_readEither g_X4_readIf g_X4_readOne g_X4_readProduct g_X4_readSum S12 else fcallv S12 x0 4 (f_X4_emit x0 26 0 S12) (fun v13 S14 => if v13 = 0 then f_X4_readOne_b256 g_X4_readAsk g_X4_readBoth g_X4_readEither g_X4_readIf g_X4_readOne g_X4_readProduct g_X4_readSum S14 else f_X4_readOne_b257 g_X4_readAsk g_X4_readBoth g_X4_readEither g_X4_readIf g_X4_readOne g_X4_readProduct g_X4_readSum 1 S14)))) else if x2 = 27 then fcallv S6 x0 4 (g_X4_readOne x0 (w32 (x1 + 1)) S6) (fun v15 S16 => if v15 = 0 then f_X4_readOne_b211 g_X4_readAsk g_X4_readBoth g_X4_readEither g_X4_readIf g_X4_readOne g_X4_readProduct g_X4_readSum S16 else fcallv S16 x0 4 (f_X4_emit x0 27 0 S16) (fun v17 S18 => if v17 = 0 then f_X4_readOne_b211 g_X4_readAsk g_X4_readBoth g_X4_readEither g_X4_readIf g_X4_readOne g_X4_readProduct g_X4_readSum S18 else f_X4_readOne_b212 g_X4_readAsk g_X4_readBoth g_X4_readEither g_X4_readIf g_X4_readOne g_X4_readProduct g_X4_readSum 1 S18)) else if x2 = 38 then fcallv S6 x0 4 (g_X4_readOne x0 (w32 (x1 + 1)) S6) (fun v19 S20 => if v19 = 0 then f_X4_readOne_b185 g_X4_readAsk g_X4_readBoth g_X4_readEither g_X4_readIf g_X4_readOne g_X4_readProduct g_X4_readSum S20 else fcallv S20 x0 4 (f_X4_emit x0 45 0 S20) (fun v21 S22 => if v21 = 0 then f_X4_readOne_b185 g_X4_readAsk g_X4_readBoth g_X4_readEither g_X4_readIf g_X4_readOne g_X4_readProduct g_X4_readSum S22 else f_X4_readOne_b186 g_X4_readAsk g_X4_readBoth g_X4_readEither g_X4_readIf g_X4_readOne g_X4_readProduct g_X4_readSum 1 S22)) else if x2 = 41 then fcallv S6 x0 4 (g_X4_readSum x0 (w32 (x1 + 1)) S6) (fun v23 S24 => if v23 = 0 then f_X4_readOne_b159 g_X4_readAsk g_X4_readBoth g_X4_readEither g_X4_readIf g_X4_readOne g_X4_readProduct g_X4_readSum S24 else fcallv S24 x0 4 (f_X4_readKind x0 42 S24) (fun v25 S26 => if v25 = 0 then f_X4_readOne_b159 g_X4_readAsk g_X4_readBoth g_X4_readEither g_X4_readIf g_X4_readOne g_X4_readProduct g_X4_readSum S26 else f_X4_readOne_b160 g_X4_readAsk g_X4_readBoth g_X4_readEither g_X4_readIf g_X4_readOne g_X4_readProduct g_X4_readSum 1 S26)) else fcallv S6 x0 4 (g_X4_readIf x0 (w32 (x1 + 1)) S6) (fun v27 S28 => some (v27, S28)))) else fcallv S x0 4 (f_X4_refuse x0 3 S) (fun v29 S30 => some (v29, S30))
theorem p_f_X4_readOne_b69 {G : jG} {d : Nat} {S0 : jSt} (hd0 : 4 ≤ d) {g_X4_readAsk : Int → Int → jSt → Option (Int × jSt)} {g_X4_readBoth : Int → Int → jSt → Option (Int × jSt)} {g_X4_readEither : Int → Int → jSt → Option (Int × jSt)} {g_X4_readIf : Int → Int → jSt → Option (Int × jSt)} {g_X4_readOne : Int → Int → jSt → Option (Int × jSt)} {g_X4_readProduct : Int → Int → jSt → Option (Int × jSt)} {g_X4_readSum : Int → Int → jSt → Option (Int × jSt)} {dg : Nat} (hdg : dg + 1 ≤ d) (q_X4_readAsk : ∀ (a0 : Int) (a1 : Int) (S : jSt), (0 ≤ (a0)) → (R32 (a1)) → CT G yX4_readAsk cX4_readAsk 3 (some .boolean) dg ([(2, a0), (0, a1)].map jval) S (g_X4_readAsk a0 a1 S)) (q_X4_readBoth : ∀ (a0 : Int) (a1 : Int) (S : jSt), (0 ≤ (a0)) → (R32 (a1)) → CT G yX4_readBoth cX4_readBoth 3 (some .boolean) dg ([(2, a0), (0, a1)].map jval) S (g_X4_readBoth a0 a1 S)) (q_X4_readEither : ∀ (a0 : Int) (a1 : Int) (S : jSt), (0 ≤ (a0)) → (R32 (a1)) → CT G yX4_readEither cX4_readEither 3 (some .boolean) dg ([(2, a0), (0, a1)].map jval) S (g_X4_readEither a0 a1 S)) (q_X4_readIf : ∀ (a0 : Int) (a1 : Int) (S : jSt), (0 ≤ (a0)) → (R32 (a1)) → CT G yX4_readIf cX4_readIf 4 (some .boolean) dg ([(2, a0), (0, a1)].map jval) S (g_X4_readIf a0 a1 S)) (q_X4_readOne : ∀ (a0 : Int) (a1 : Int) (S : jSt), (0 ≤ (a0)) → (R32 (a1)) → CT G yX4_readOne cX4_readOne 3 (some .boolean) dg ([(2, a0), (0, a1)].map jval) S (g_X4_readOne a0 a1 S)) (q_X4_readProduct : ∀ (a0 : Int) (a1 : Int) (S : jSt), (0 ≤ (a0)) → (R32 (a1)) → CT G yX4_readProduct cX4_readProduct 4 (some .boolean) dg ([(2, a0), (0, a1)].map jval) S (g_X4_readProduct a0 a1 S)) (q_X4_readSum : ∀ (a0 : Int) (a1 : Int) (S : jSt), (0 ≤ (a0)) → (R32 (a1)) → CT G yX4_readSum cX4_readSum 4 (some .boolean) dg ([(2, a0), (0, a1)].map jval) S (g_X4_readSum a0 a1 S)) : ∀ (x0 : Int) (x1 : Int) (x2 : Int) (S : jSt), (0 ≤ (x0)) → (R32 (x1)) → (R32 (x2)) → J G yX4_readOne cX4_readOne 3 (some .boolean) d S0 69 [(0, 2, x0), (1, 0, x1), (2, 0, x2)] [] S (f_X4_readOne_b69 g_X4_readAsk g_X4_readBoth g_X4_readEither g_X4_readIf g_X4_readOne g_X4_readProduct g_X4_readSum x0 x1 x2 S) := by
  intro x0 x1 x2 S h0 h1 h2
  unfold f_X4_readOne_b69
  refine j_iload_n 1 dX4_readOne_69 rfl rfl ?_
  refine j_bipush dX4_readOne_70 (by decide) ?_
  refine j_icmp_lt (tgt := 81) h1 (j_r32 8 rfl) dX4_readOne_72 rfl (fun _ => ?_) (fun _ => ?_)
  · refine j_aload_n 0 dX4_readOne_81 rfl rfl ?_
    refine j_dup dX4_readOne_82 (fun h => nomatch h) ?_
    refine j_get (ci := 4) (k := 3) (t := 0) rfl in_X4 (Nat.le_of_ble_eq_true rfl) rfl rfl fl_X4_40 dX4_readOne_83 (fun (v5 : Int) (hv5 : R32 (v5)) => ?_)
    refine j_iconst dX4_readOne_86 ?_
    refine j_iadd dX4_readOne_87 ?_
    refine j_puti (ci := 4) (k := 3) (ty0 := tyX4) rfl in_X4 (Nat.le_of_ble_eq_true rfl) rfl tyX4_ok nmX4 rfl rfl (by decide +kernel) (w32_R _) fl_X4_40 dX4_readOne_88 (fun S6 => ?_)
    refine j_iload_n 2 dX4_readOne_91 rfl rfl ?_
    refine j_ite (fun hc0 => ?_) (fun hc0 => ?_)
    · refine j_lookup (tgt := 213) (off := 121) h2 dX4_readOne_92 (by decide) (by rw [hc0]; rfl) rfl ?_
      refine j_aload_n 0 dX4_readOne_213 rfl rfl ?_
      refine j_iload_n 1 dX4_readOne_214 rfl rfl ?_
      refine j_iconst dX4_readOne_215 ?_
      refine j_iadd dX4_readOne_216 ?_
      refine j_callV (ci := 4) (As := [(0, w32 (x1 + 1))]) (st := []) kc_X4_readOne (q_X4_readOne x0 (w32 (x1 + 1)) S6 h0 (w32_R _)) rfl lm_X4_120 ki_X4_readOne ke_X4_readOne rfl (Nat.le_of_ble_eq_true rfl) hdg dX4_readOne_217 (fun (v7 : Int) (S8 : jSt) (hv7 : (v7) = 0 ∨ (v7) = 1) => ?_)
      refine j_if_eq (tgt := 256) (jZ_R hv7) dX4_readOne_220 rfl (fun _ => ?_) (fun _ => ?_)
      · refine j_sub [] rfl ?_
        exact p_f_X4_readOne_b256 hd0 hdg q_X4_readAsk q_X4_readBoth q_X4_readEither q_X4_readIf q_X4_readOne q_X4_readProduct q_X4_readSum S8
      · refine j_aload_n 0 dX4_readOne_223 rfl rfl ?_
        refine j_bipush dX4_readOne_224 (by decide) ?_
        refine j_callV (ci := 4) (As := [(0, 19)]) (st := []) kc_X4_readKind (c_X4_readKind x0 19 S8 h0 (j_r32 19 rfl)) rfl lm_X4_98 ki_X4_readKind ke_X4_readKind rfl (Nat.le_of_ble_eq_true rfl) (Nat.le_trans (m := 4) (Nat.le_of_ble_eq_true rfl) hd0) dX4_readOne_226 (fun (v9 : Int) (S10 : jSt) (hv9 : (v9) = 0 ∨ (v9) = 1) => ?_)
        refine j_if_eq (tgt := 256) (jZ_R hv9) dX4_readOne_229 rfl (fun _ => ?_) (fun _ => ?_)
        · refine j_sub [] rfl ?_
          exact p_f_X4_readOne_b256 hd0 hdg q_X4_readAsk q_X4_readBoth q_X4_readEither q_X4_readIf q_X4_readOne q_X4_readProduct q_X4_readSum S10
        · refine j_aload_n 0 dX4_readOne_232 rfl rfl ?_
          refine j_iload_n 1 dX4_readOne_233 rfl rfl ?_
          refine j_iconst dX4_readOne_234 ?_
          refine j_iadd dX4_readOne_235 ?_
          refine j_callV (ci := 4) (As := [(0, w32 (x1 + 1))]) (st := []) kc_X4_readOne (q_X4_readOne x0 (w32 (x1 + 1)) S10 h0 (w32_R _)) rfl lm_X4_120 ki_X4_readOne ke_X4_readOne rfl (Nat.le_of_ble_eq_true rfl) hdg dX4_readOne_236 (fun (v11 : Int) (S12 : jSt) (hv11 : (v11) = 0 ∨ (v11) = 1) => ?_)
          refine j_if_eq (tgt := 256) (jZ_R hv11) dX4_readOne_239 rfl (fun _ => ?_) (fun _ => ?_)
          · refine j_sub [] rfl ?_
            exact p_f_X4_readOne_b256 hd0 hdg q_X4_readAsk q_X4_readBoth q_X4_readEither q_X4_readIf q_X4_readOne q_X4_readProduct q_X4_readSum S12
          · refine j_aload_n 0 dX4_readOne_242 rfl rfl ?_
            refine j_bipush dX4_readOne_243 (by decide) ?_
            refine j_iconst dX4_readOne_245 ?_
            refine j_callV (ci := 4) (As := [(0, 26), (0, 0)]) (st := []) kc_X4_emit (c_X4_emit x0 26 0 S12 h0 (j_r32 26 rfl) (jZ_R jz0)) rfl lm_X4_116 ki_X4_emit ke_X4_emit rfl (Nat.le_of_ble_eq_true rfl) (Nat.le_trans (m := 4) (Nat.le_of_ble_eq_true rfl) hd0) dX4_readOne_246 (fun (v13 : Int) (S14 : jSt) (hv13 : (v13) = 0 ∨ (v13) = 1) => ?_)
            refine j_if_eq (tgt := 256) (jZ_R hv13) dX4_readOne_249 rfl (fun _ => ?_) (fun _ => ?_)
            · refine j_sub [] rfl ?_
              exact p_f_X4_readOne_b256 hd0 hdg q_X4_readAsk q_X4_readBoth q_X4_readEither q_X4_readIf q_X4_readOne q_X4_readProduct q_X4_readSum S14
            · refine j_iconst dX4_readOne_252 ?_
              refine j_goto (tgt := 257) dX4_readOne_253 rfl ?_
              refine j_sub [] rfl ?_
              exact p_f_X4_readOne_b257 hd0 hdg q_X4_readAsk q_X4_readBoth q_X4_readEither q_X4_readIf q_X4_readOne q_X4_readProduct q_X4_readSum 1 S14 jz1
    refine j_ite (fun hc1 => ?_) (fun hc1 => ?_)
    · refine j_lookup (tgt := 187) (off := 95) h2 dX4_readOne_92 (by decide) (by rw [hc1]; rfl) rfl ?_
      refine j_aload_n 0 dX4_readOne_187 rfl rfl ?_
      refine j_iload_n 1 dX4_readOne_188 rfl rfl ?_
      refine j_iconst dX4_readOne_189 ?_
      refine j_iadd dX4_readOne_190 ?_
      refine j_callV (ci := 4) (As := [(0, w32 (x1 + 1))]) (st := []) kc_X4_readOne (q_X4_readOne x0 (w32 (x1 + 1)) S6 h0 (w32_R _)) rfl lm_X4_120 ki_X4_readOne ke_X4_readOne rfl (Nat.le_of_ble_eq_true rfl) hdg dX4_readOne_191 (fun (v15 : Int) (S16 : jSt) (hv15 : (v15) = 0 ∨ (v15) = 1) => ?_)
      refine j_if_eq (tgt := 211) (jZ_R hv15) dX4_readOne_194 rfl (fun _ => ?_) (fun _ => ?_)
      · refine j_sub [] rfl ?_
        exact p_f_X4_readOne_b211 hd0 hdg q_X4_readAsk q_X4_readBoth q_X4_readEither q_X4_readIf q_X4_readOne q_X4_readProduct q_X4_readSum S16
      · refine j_aload_n 0 dX4_readOne_197 rfl rfl ?_
        refine j_bipush dX4_readOne_198 (by decide) ?_
        refine j_iconst dX4_readOne_200 ?_
        refine j_callV (ci := 4) (As := [(0, 27), (0, 0)]) (st := []) kc_X4_emit (c_X4_emit x0 27 0 S16 h0 (j_r32 27 rfl) (jZ_R jz0)) rfl lm_X4_116 ki_X4_emit ke_X4_emit rfl (Nat.le_of_ble_eq_true rfl) (Nat.le_trans (m := 4) (Nat.le_of_ble_eq_true rfl) hd0) dX4_readOne_201 (fun (v17 : Int) (S18 : jSt) (hv17 : (v17) = 0 ∨ (v17) = 1) => ?_)
        refine j_if_eq (tgt := 211) (jZ_R hv17) dX4_readOne_204 rfl (fun _ => ?_) (fun _ => ?_)
        · refine j_sub [] rfl ?_
          exact p_f_X4_readOne_b211 hd0 hdg q_X4_readAsk q_X4_readBoth q_X4_readEither q_X4_readIf q_X4_readOne q_X4_readProduct q_X4_readSum S18
        · refine j_iconst dX4_readOne_207 ?_
          refine j_goto (tgt := 212) dX4_readOne_208 rfl ?_
          refine j_sub [] rfl ?_
          exact p_f_X4_readOne_b212 hd0 hdg q_X4_readAsk q_X4_readBoth q_X4_readEither q_X4_readIf q_X4_readOne q_X4_readProduct q_X4_readSum 1 S18 jz1
    refine j_ite (fun hc2 => ?_) (fun hc2 => ?_)
    · refine j_lookup (tgt := 161) (off := 69) h2 dX4_readOne_92 (by decide) (by rw [hc2]; rfl) rfl ?_
      refine j_aload_n 0 dX4_readOne_161 rfl rfl ?_
      refine j_iload_n 1 dX4_readOne_162 rfl rfl ?_
      refine j_iconst dX4_readOne_163 ?_
      refine j_iadd dX4_readOne_164 ?_
      refine j_callV (ci := 4) (As := [(0, w32 (x1 + 1))]) (st := []) kc_X4_readOne (q_X4_readOne x0 (w32 (x1 + 1)) S6 h0 (w32_R _)) rfl lm_X4_120 ki_X4_readOne ke_X4_readOne rfl (Nat.le_of_ble_eq_true rfl) hdg dX4_readOne_165 (fun (v19 : Int) (S20 : jSt) (hv19 : (v19) = 0 ∨ (v19) = 1) => ?_)
      refine j_if_eq (tgt := 185) (jZ_R hv19) dX4_readOne_168 rfl (fun _ => ?_) (fun _ => ?_)
      · refine j_sub [] rfl ?_
        exact p_f_X4_readOne_b185 hd0 hdg q_X4_readAsk q_X4_readBoth q_X4_readEither q_X4_readIf q_X4_readOne q_X4_readProduct q_X4_readSum S20
      · refine j_aload_n 0 dX4_readOne_171 rfl rfl ?_
        refine j_bipush dX4_readOne_172 (by decide) ?_
        refine j_iconst dX4_readOne_174 ?_
        refine j_callV (ci := 4) (As := [(0, 45), (0, 0)]) (st := []) kc_X4_emit (c_X4_emit x0 45 0 S20 h0 (j_r32 45 rfl) (jZ_R jz0)) rfl lm_X4_116 ki_X4_emit ke_X4_emit rfl (Nat.le_of_ble_eq_true rfl) (Nat.le_trans (m := 4) (Nat.le_of_ble_eq_true rfl) hd0) dX4_readOne_175 (fun (v21 : Int) (S22 : jSt) (hv21 : (v21) = 0 ∨ (v21) = 1) => ?_)
        refine j_if_eq (tgt := 185) (jZ_R hv21) dX4_readOne_178 rfl (fun _ => ?_) (fun _ => ?_)
        · refine j_sub [] rfl ?_
          exact p_f_X4_readOne_b185 hd0 hdg q_X4_readAsk q_X4_readBoth q_X4_readEither q_X4_readIf q_X4_readOne q_X4_readProduct q_X4_readSum S22
        · refine j_iconst dX4_readOne_181 ?_
          refine j_goto (tgt := 186) dX4_readOne_182 rfl ?_
          refine j_sub [] rfl ?_
          exact p_f_X4_readOne_b186 hd0 hdg q_X4_readAsk q_X4_readBoth q_X4_readEither q_X4_readIf q_X4_readOne q_X4_readProduct q_X4_readSum 1 S22 jz1
    refine j_ite (fun hc3 => ?_) (fun hc3 => ?_)
    · refine j_lookup (tgt := 136) (off := 44) h2 dX4_readOne_92 (by decide) (by rw [hc3]; rfl) rfl ?_
      refine j_aload_n 0 dX4_readOne_136 rfl rfl ?_
      refine j_iload_n 1 dX4_readOne_137 rfl rfl ?_
      refine j_iconst dX4_readOne_138 ?_
      refine j_iadd dX4_readOne_139 ?_
      refine j_callV (ci := 4) (As := [(0, w32 (x1 + 1))]) (st := []) kc_X4_readSum (q_X4_readSum x0 (w32 (x1 + 1)) S6 h0 (w32_R _)) rfl lm_X4_104 ki_X4_readSum ke_X4_readSum rfl (Nat.le_of_ble_eq_true rfl) hdg dX4_readOne_140 (fun (v23 : Int) (S24 : jSt) (hv23 : (v23) = 0 ∨ (v23) = 1) => ?_)
      refine j_if_eq (tgt := 159) (jZ_R hv23) dX4_readOne_143 rfl (fun _ => ?_) (fun _ => ?_)
      · refine j_sub [] rfl ?_
        exact p_f_X4_readOne_b159 hd0 hdg q_X4_readAsk q_X4_readBoth q_X4_readEither q_X4_readIf q_X4_readOne q_X4_readProduct q_X4_readSum S24
      · refine j_aload_n 0 dX4_readOne_146 rfl rfl ?_
        refine j_bipush dX4_readOne_147 (by decide) ?_
        refine j_callV (ci := 4) (As := [(0, 42)]) (st := []) kc_X4_readKind (c_X4_readKind x0 42 S24 h0 (j_r32 42 rfl)) rfl lm_X4_98 ki_X4_readKind ke_X4_readKind rfl (Nat.le_of_ble_eq_true rfl) (Nat.le_trans (m := 4) (Nat.le_of_ble_eq_true rfl) hd0) dX4_readOne_149 (fun (v25 : Int) (S26 : jSt) (hv25 : (v25) = 0 ∨ (v25) = 1) => ?_)
        refine j_if_eq (tgt := 159) (jZ_R hv25) dX4_readOne_152 rfl (fun _ => ?_) (fun _ => ?_)
        · refine j_sub [] rfl ?_
          exact p_f_X4_readOne_b159 hd0 hdg q_X4_readAsk q_X4_readBoth q_X4_readEither q_X4_readIf q_X4_readOne q_X4_readProduct q_X4_readSum S26
        · refine j_iconst dX4_readOne_155 ?_
          refine j_goto (tgt := 160) dX4_readOne_156 rfl ?_
          refine j_sub [] rfl ?_
          exact p_f_X4_readOne_b160 hd0 hdg q_X4_readAsk q_X4_readBoth q_X4_readEither q_X4_readIf q_X4_readOne q_X4_readProduct q_X4_readSum 1 S26 jz1
    refine j_lookup (tgt := 258) (off := 166) h2 dX4_readOne_92 (by decide) (by simp [Op.lookupswitch.offset, Ne.symm hc0, hc0, Ne.symm hc1, hc1, Ne.symm hc2, hc2, Ne.symm hc3, hc3]) rfl ?_
    refine j_aload_n 0 dX4_readOne_258 rfl rfl ?_
    refine j_iload_n 1 dX4_readOne_259 rfl rfl ?_
    refine j_iconst dX4_readOne_260 ?_
    refine j_iadd dX4_readOne_261 ?_
    refine j_callV (ci := 4) (As := [(0, w32 (x1 + 1))]) (st := []) kc_X4_readIf (q_X4_readIf x0 (w32 (x1 + 1)) S6 h0 (w32_R _)) rfl lm_X4_129 ki_X4_readIf ke_X4_readIf rfl (Nat.le_of_ble_eq_true rfl) hdg dX4_readOne_262 (fun (v27 : Int) (S28 : jSt) (hv27 : (v27) = 0 ∨ (v27) = 1) => ?_)
    exact j_zreturn hv27 dX4_readOne_265
  · refine j_aload_n 0 dX4_readOne_75 rfl rfl ?_
    refine j_iconst dX4_readOne_76 ?_
    refine j_callV (ci := 4) (As := [(0, 3)]) (st := []) kc_X4_refuse (c_X4_refuse x0 3 S h0 (j_r32 3 rfl)) rfl lm_X4_84 ki_X4_refuse ke_X4_refuse rfl (Nat.le_of_ble_eq_true rfl) (Nat.le_trans (m := 4) (Nat.le_of_ble_eq_true rfl) hd0) dX4_readOne_77 (fun (v29 : Int) (S30 : jSt) (hv29 : (v29) = 0 ∨ (v29) = 1) => ?_)
    exact j_zreturn hv29 dX4_readOne_80
def f_X4_readOne_G (g_X4_readAsk : Int → Int → jSt → Option (Int × jSt)) (g_X4_readBoth : Int → Int → jSt → Option (Int × jSt)) (g_X4_readEither : Int → Int → jSt → Option (Int × jSt)) (g_X4_readIf : Int → Int → jSt → Option (Int × jSt)) (g_X4_readOne : Int → Int → jSt → Option (Int × jSt)) (g_X4_readProduct : Int → Int → jSt → Option (Int × jSt)) (g_X4_readSum : Int → Int → jSt → Option (Int × jSt)) (a0 : Int) (a1 : Int) (S : jSt) : Option (Int × jSt) :=
  fcallv S a0 4 (f_X4_kind a0 S) (fun v1 S2 => if v1 = 30 then fcallv S2 a0 4 (f_X4_readPlainNumber a0 S2) (fun v35 S36 => some (v35, S36)) else fcall (f_X11_within v1 9 17 S2) (fun v3 S4 => if v3 = 0 then if v1 = 41 then f_X4_readOne_b69 g_X4_readAsk g_X4_readBoth g_X4_readEither g_X4_readIf g_X4_readOne g_X4_readProduct g_X4_readSum a0 a1 v1 S4 else if v1 = 38 then f_X4_readOne_b69 g_X4_readAsk g_X4_readBoth g_X4_readEither g_X4_readIf g_X4_readOne g_X4_readProduct g_X4_readSum a0 a1 v1 S4 else if v1 = 26 then f_X4_readOne_b69 g_X4_readAsk g_X4_readBoth g_X4_readEither g_X4_readIf g_X4_readOne g_X4_readProduct g_X4_readSum a0 a1 v1 S4 else if v1 = 27 then f_X4_readOne_b69 g_X4_readAsk g_X4_readBoth g_X4_readEither g_X4_readIf g_X4_readOne g_X4_readProduct g_X4_readSum a0 a1 v1 S4 else if v1 = 24 then f_X4_readOne_b69 g_X4_readAsk g_X4_readBoth g_X4_readEither g_X4_readIf g_X4_readOne g_X4_readProduct g_X4_readSum a0 a1 v1 S4 else fcallv S4 a0 4 (f_X4_refuse a0 1 S4) (fun v31 S32 => some (v31, S32)) else fcallv S4 a0 4 (f_X4_readName a0 v1 S4) (fun v33 S34 => some (v33, S34))))
theorem e_X4_readOne_G {G : jG} {d : Nat} {S0 : jSt} (hd0 : 4 ≤ d) {g_X4_readAsk : Int → Int → jSt → Option (Int × jSt)} {g_X4_readBoth : Int → Int → jSt → Option (Int × jSt)} {g_X4_readEither : Int → Int → jSt → Option (Int × jSt)} {g_X4_readIf : Int → Int → jSt → Option (Int × jSt)} {g_X4_readOne : Int → Int → jSt → Option (Int × jSt)} {g_X4_readProduct : Int → Int → jSt → Option (Int × jSt)} {g_X4_readSum : Int → Int → jSt → Option (Int × jSt)} {dg : Nat} (hdg : dg + 1 ≤ d) (q_X4_readAsk : ∀ (a0 : Int) (a1 : Int) (S : jSt), (0 ≤ (a0)) → (R32 (a1)) → CT G yX4_readAsk cX4_readAsk 3 (some .boolean) dg ([(2, a0), (0, a1)].map jval) S (g_X4_readAsk a0 a1 S)) (q_X4_readBoth : ∀ (a0 : Int) (a1 : Int) (S : jSt), (0 ≤ (a0)) → (R32 (a1)) → CT G yX4_readBoth cX4_readBoth 3 (some .boolean) dg ([(2, a0), (0, a1)].map jval) S (g_X4_readBoth a0 a1 S)) (q_X4_readEither : ∀ (a0 : Int) (a1 : Int) (S : jSt), (0 ≤ (a0)) → (R32 (a1)) → CT G yX4_readEither cX4_readEither 3 (some .boolean) dg ([(2, a0), (0, a1)].map jval) S (g_X4_readEither a0 a1 S)) (q_X4_readIf : ∀ (a0 : Int) (a1 : Int) (S : jSt), (0 ≤ (a0)) → (R32 (a1)) → CT G yX4_readIf cX4_readIf 4 (some .boolean) dg ([(2, a0), (0, a1)].map jval) S (g_X4_readIf a0 a1 S)) (q_X4_readOne : ∀ (a0 : Int) (a1 : Int) (S : jSt), (0 ≤ (a0)) → (R32 (a1)) → CT G yX4_readOne cX4_readOne 3 (some .boolean) dg ([(2, a0), (0, a1)].map jval) S (g_X4_readOne a0 a1 S)) (q_X4_readProduct : ∀ (a0 : Int) (a1 : Int) (S : jSt), (0 ≤ (a0)) → (R32 (a1)) → CT G yX4_readProduct cX4_readProduct 4 (some .boolean) dg ([(2, a0), (0, a1)].map jval) S (g_X4_readProduct a0 a1 S)) (q_X4_readSum : ∀ (a0 : Int) (a1 : Int) (S : jSt), (0 ≤ (a0)) → (R32 (a1)) → CT G yX4_readSum cX4_readSum 4 (some .boolean) dg ([(2, a0), (0, a1)].map jval) S (g_X4_readSum a0 a1 S)) (a0 : Int) (a1 : Int) (S : jSt) (h0 : 0 ≤ (a0)) (h1 : R32 (a1)) : J G yX4_readOne cX4_readOne 3 (some .boolean) d S0 0 [(0, 2, a0), (1, 0, a1)] [] S (f_X4_readOne_G g_X4_readAsk g_X4_readBoth g_X4_readEither g_X4_readIf g_X4_readOne g_X4_readProduct g_X4_readSum a0 a1 S) := by
  unfold f_X4_readOne_G
  refine j_aload_n 0 dX4_readOne_0 rfl rfl ?_
  refine j_callV (ci := 4) (As := []) (st := []) kc_X4_kind (c_X4_kind a0 S h0) rfl lm_X4_55 ki_X4_kind ke_X4_kind rfl (Nat.le_of_ble_eq_true rfl) (Nat.le_trans (m := 4) (Nat.le_of_ble_eq_true rfl) hd0) dX4_readOne_1 (fun (v1 : Int) (S2 : jSt) (hv1 : R32 (v1)) => ?_)
  refine j_istore_n (lv' := [(2, 0, v1), (0, 2, a0), (1, 0, a1)]) dX4_readOne_4 rfl (Nat.le_of_ble_eq_true rfl) rfl ?_
  refine j_iload_n 0 dX4_readOne_5 rfl rfl ?_
  refine j_bipush dX4_readOne_6 (by decide) ?_
  refine j_icmp_ne (tgt := 16) hv1 (j_r32 30 rfl) dX4_readOne_8 rfl (fun _ => ?_) (fun _ => ?_)
  · refine j_iload_n 0 dX4_readOne_16 rfl rfl ?_
    refine j_bipush dX4_readOne_17 (by decide) ?_
    refine j_bipush dX4_readOne_19 (by decide) ?_
    refine j_callSN (As := [(0, v1), (0, 9), (0, 17)]) (st := []) (host := RX11) kc_X11_within (c_X11_within v1 9 17 S2 hv1 (j_r32 9 rfl) (j_r32 17 rfl)) (by decide +kernel) ks_X11_within rfl (Nat.le_of_ble_eq_true rfl) (Nat.le_trans (m := 4) (Nat.le_of_ble_eq_true rfl) hd0) dX4_readOne_21 (fun (v3 : Int) (S4 : jSt) (hv3 : (v3) = 0 ∨ (v3) = 1) => ?_)
    refine j_if_eq (tgt := 33) (jZ_R hv3) dX4_readOne_24 rfl (fun _ => ?_) (fun _ => ?_)
    · refine j_iload_n 0 dX4_readOne_33 rfl rfl ?_
      refine j_bipush dX4_readOne_34 (by decide) ?_
      refine j_icmp_eq (tgt := 69) hv1 (j_r32 41 rfl) dX4_readOne_36 rfl (fun _ => ?_) (fun _ => ?_)
      · refine j_sub [1, 2, 0] rfl ?_
        exact p_f_X4_readOne_b69 hd0 hdg q_X4_readAsk q_X4_readBoth q_X4_readEither q_X4_readIf q_X4_readOne q_X4_readProduct q_X4_readSum a0 a1 v1 S4 h0 h1 hv1
      · refine j_iload_n 0 dX4_readOne_39 rfl rfl ?_
        refine j_bipush dX4_readOne_40 (by decide) ?_
        refine j_icmp_eq (tgt := 69) hv1 (j_r32 38 rfl) dX4_readOne_42 rfl (fun _ => ?_) (fun _ => ?_)
        · refine j_sub [1, 2, 0] rfl ?_
          exact p_f_X4_readOne_b69 hd0 hdg q_X4_readAsk q_X4_readBoth q_X4_readEither q_X4_readIf q_X4_readOne q_X4_readProduct q_X4_readSum a0 a1 v1 S4 h0 h1 hv1
        · refine j_iload_n 0 dX4_readOne_45 rfl rfl ?_
          refine j_bipush dX4_readOne_46 (by decide) ?_
          refine j_icmp_eq (tgt := 69) hv1 (j_r32 26 rfl) dX4_readOne_48 rfl (fun _ => ?_) (fun _ => ?_)
          · refine j_sub [1, 2, 0] rfl ?_
            exact p_f_X4_readOne_b69 hd0 hdg q_X4_readAsk q_X4_readBoth q_X4_readEither q_X4_readIf q_X4_readOne q_X4_readProduct q_X4_readSum a0 a1 v1 S4 h0 h1 hv1
          · refine j_iload_n 0 dX4_readOne_51 rfl rfl ?_
            refine j_bipush dX4_readOne_52 (by decide) ?_
            refine j_icmp_eq (tgt := 69) hv1 (j_r32 27 rfl) dX4_readOne_54 rfl (fun _ => ?_) (fun _ => ?_)
            · refine j_sub [1, 2, 0] rfl ?_
              exact p_f_X4_readOne_b69 hd0 hdg q_X4_readAsk q_X4_readBoth q_X4_readEither q_X4_readIf q_X4_readOne q_X4_readProduct q_X4_readSum a0 a1 v1 S4 h0 h1 hv1
            · refine j_iload_n 0 dX4_readOne_57 rfl rfl ?_
              refine j_bipush dX4_readOne_58 (by decide) ?_
              refine j_icmp_eq (tgt := 69) hv1 (j_r32 24 rfl) dX4_readOne_60 rfl (fun _ => ?_) (fun _ => ?_)
              · refine j_sub [1, 2, 0] rfl ?_
                exact p_f_X4_readOne_b69 hd0 hdg q_X4_readAsk q_X4_readBoth q_X4_readEither q_X4_readIf q_X4_readOne q_X4_readProduct q_X4_readSum a0 a1 v1 S4 h0 h1 hv1
              · refine j_aload_n 1 dX4_readOne_63 rfl rfl ?_
                refine j_iconst dX4_readOne_64 ?_
                refine j_callV (ci := 4) (As := [(0, 1)]) (st := []) kc_X4_refuse (c_X4_refuse a0 1 S4 h0 (jZ_R jz1)) rfl lm_X4_84 ki_X4_refuse ke_X4_refuse rfl (Nat.le_of_ble_eq_true rfl) (Nat.le_trans (m := 4) (Nat.le_of_ble_eq_true rfl) hd0) dX4_readOne_65 (fun (v31 : Int) (S32 : jSt) (hv31 : (v31) = 0 ∨ (v31) = 1) => ?_)
                exact j_zreturn hv31 dX4_readOne_68
    · refine j_aload_n 1 dX4_readOne_27 rfl rfl ?_
      refine j_iload_n 0 dX4_readOne_28 rfl rfl ?_
      refine j_callV (ci := 4) (As := [(0, v1)]) (st := []) kc_X4_readName (c_X4_readName a0 v1 S4 h0 hv1) rfl lm_X4_126 ki_X4_readName ke_X4_readName rfl (Nat.le_of_ble_eq_true rfl) (Nat.le_trans (m := 4) (Nat.le_of_ble_eq_true rfl) hd0) dX4_readOne_29 (fun (v33 : Int) (S34 : jSt) (hv33 : (v33) = 0 ∨ (v33) = 1) => ?_)
      exact j_zreturn hv33 dX4_readOne_32
  · refine j_aload_n 1 dX4_readOne_11 rfl rfl ?_
    refine j_callV (ci := 4) (As := []) (st := []) kc_X4_readPlainNumber (c_X4_readPlainNumber a0 S2 h0) rfl lm_X4_123 ki_X4_readPlainNumber ke_X4_readPlainNumber rfl (Nat.le_of_ble_eq_true rfl) (Nat.le_trans (m := 4) (Nat.le_of_ble_eq_true rfl) hd0) dX4_readOne_12 (fun (v35 : Int) (S36 : jSt) (hv35 : (v35) = 0 ∨ (v35) = 1) => ?_)
    exact j_zreturn hv35 dX4_readOne_15
def f_X4_readProduct_b38 (g_X4_readAsk : Int → Int → jSt → Option (Int × jSt)) (g_X4_readBoth : Int → Int → jSt → Option (Int × jSt)) (g_X4_readEither : Int → Int → jSt → Option (Int × jSt)) (g_X4_readIf : Int → Int → jSt → Option (Int × jSt)) (g_X4_readOne : Int → Int → jSt → Option (Int × jSt)) (g_X4_readProduct : Int → Int → jSt → Option (Int × jSt)) (g_X4_readSum : Int → Int → jSt → Option (Int × jSt)) (r12 : Int → Int → Int → jSt → Option (Int × jSt)) (x0 : Int) (x1 : Int) (x2 : Int) (x3 : Int) (S : jSt) : Option (Int × jSt) :=
  fget S x0 4 3 (fun v5 => fput S x0 4 3 (w32 (v5 + 1)) (fun S6 => fcallv S6 x0 4 (g_X4_readOne x0 x1 S6) (fun v7 S8 => if v7 = 0 then some (0, S8) else fcallv S8 x0 4 (f_X4_emit x0 x3 0 S8) (fun v9 S10 => flet (w32 (x2 + 1)) (fun v11 => r12 x0 x1 v11 S10)))))
theorem p_f_X4_readProduct_b38 {G : jG} {d : Nat} {S0 : jSt} (hd0 : 4 ≤ d) {g_X4_readAsk : Int → Int → jSt → Option (Int × jSt)} {g_X4_readBoth : Int → Int → jSt → Option (Int × jSt)} {g_X4_readEither : Int → Int → jSt → Option (Int × jSt)} {g_X4_readIf : Int → Int → jSt → Option (Int × jSt)} {g_X4_readOne : Int → Int → jSt → Option (Int × jSt)} {g_X4_readProduct : Int → Int → jSt → Option (Int × jSt)} {g_X4_readSum : Int → Int → jSt → Option (Int × jSt)} {dg : Nat} (hdg : dg + 1 ≤ d) (q_X4_readAsk : ∀ (a0 : Int) (a1 : Int) (S : jSt), (0 ≤ (a0)) → (R32 (a1)) → CT G yX4_readAsk cX4_readAsk 3 (some .boolean) dg ([(2, a0), (0, a1)].map jval) S (g_X4_readAsk a0 a1 S)) (q_X4_readBoth : ∀ (a0 : Int) (a1 : Int) (S : jSt), (0 ≤ (a0)) → (R32 (a1)) → CT G yX4_readBoth cX4_readBoth 3 (some .boolean) dg ([(2, a0), (0, a1)].map jval) S (g_X4_readBoth a0 a1 S)) (q_X4_readEither : ∀ (a0 : Int) (a1 : Int) (S : jSt), (0 ≤ (a0)) → (R32 (a1)) → CT G yX4_readEither cX4_readEither 3 (some .boolean) dg ([(2, a0), (0, a1)].map jval) S (g_X4_readEither a0 a1 S)) (q_X4_readIf : ∀ (a0 : Int) (a1 : Int) (S : jSt), (0 ≤ (a0)) → (R32 (a1)) → CT G yX4_readIf cX4_readIf 4 (some .boolean) dg ([(2, a0), (0, a1)].map jval) S (g_X4_readIf a0 a1 S)) (q_X4_readOne : ∀ (a0 : Int) (a1 : Int) (S : jSt), (0 ≤ (a0)) → (R32 (a1)) → CT G yX4_readOne cX4_readOne 3 (some .boolean) dg ([(2, a0), (0, a1)].map jval) S (g_X4_readOne a0 a1 S)) (q_X4_readProduct : ∀ (a0 : Int) (a1 : Int) (S : jSt), (0 ≤ (a0)) → (R32 (a1)) → CT G yX4_readProduct cX4_readProduct 4 (some .boolean) dg ([(2, a0), (0, a1)].map jval) S (g_X4_readProduct a0 a1 S)) (q_X4_readSum : ∀ (a0 : Int) (a1 : Int) (S : jSt), (0 ≤ (a0)) → (R32 (a1)) → CT G yX4_readSum cX4_readSum 4 (some .boolean) dg ([(2, a0), (0, a1)].map jval) S (g_X4_readSum a0 a1 S)) {r12 : Int → Int → Int → jSt → Option (Int × jSt)} (k12 : ∀ (x0 : Int) (x1 : Int) (x2 : Int) (S : jSt), (0 ≤ (x0)) → (R32 (x1)) → (R32 (x2)) → J G yX4_readProduct cX4_readProduct 4 (some .boolean) d S0 12 [(0, 2, x0), (1, 0, x1), (2, 0, x2)] [] S (r12 x0 x1 x2 S)) : ∀ (x0 : Int) (x1 : Int) (x2 : Int) (x3 : Int) (S : jSt), (0 ≤ (x0)) → (R32 (x1)) → (R32 (x2)) → (R32 (x3)) → J G yX4_readProduct cX4_readProduct 4 (some .boolean) d S0 38 [(0, 2, x0), (1, 0, x1), (2, 0, x2), (3, 0, x3)] [] S (f_X4_readProduct_b38 g_X4_readAsk g_X4_readBoth g_X4_readEither g_X4_readIf g_X4_readOne g_X4_readProduct g_X4_readSum r12 x0 x1 x2 x3 S) := by
  intro x0 x1 x2 x3 S h0 h1 h2 h3
  unfold f_X4_readProduct_b38
  refine j_aload_n 0 dX4_readProduct_38 rfl rfl ?_
  refine j_dup dX4_readProduct_39 (fun h => nomatch h) ?_
  refine j_get (ci := 4) (k := 3) (t := 0) rfl in_X4 (Nat.le_of_ble_eq_true rfl) rfl rfl fl_X4_40 dX4_readProduct_40 (fun (v5 : Int) (hv5 : R32 (v5)) => ?_)
  refine j_iconst dX4_readProduct_43 ?_
  refine j_iadd dX4_readProduct_44 ?_
  refine j_puti (ci := 4) (k := 3) (ty0 := tyX4) rfl in_X4 (Nat.le_of_ble_eq_true rfl) rfl tyX4_ok nmX4 rfl rfl (by decide +kernel) (w32_R _) fl_X4_40 dX4_readProduct_45 (fun S6 => ?_)
  refine j_aload_n 0 dX4_readProduct_48 rfl rfl ?_
  refine j_iload_n 1 dX4_readProduct_49 rfl rfl ?_
  refine j_callV (ci := 4) (As := [(0, x1)]) (st := []) kc_X4_readOne (q_X4_readOne x0 x1 S6 h0 h1) rfl lm_X4_120 ki_X4_readOne ke_X4_readOne rfl (Nat.le_of_ble_eq_true rfl) hdg dX4_readProduct_50 (fun (v7 : Int) (S8 : jSt) (hv7 : (v7) = 0 ∨ (v7) = 1) => ?_)
  refine j_if_ne (tgt := 58) (jZ_R hv7) dX4_readProduct_53 rfl (fun _ => ?_) (fun _ => ?_)
  · refine j_aload_n 0 dX4_readProduct_58 rfl rfl ?_
    refine j_iload_n 3 dX4_readProduct_59 rfl rfl ?_
    refine j_iconst dX4_readProduct_60 ?_
    refine j_callV (ci := 4) (As := [(0, x3), (0, 0)]) (st := []) kc_X4_emit (c_X4_emit x0 x3 0 S8 h0 h3 (jZ_R jz0)) rfl lm_X4_116 ki_X4_emit ke_X4_emit rfl (Nat.le_of_ble_eq_true rfl) (Nat.le_trans (m := 4) (Nat.le_of_ble_eq_true rfl) hd0) dX4_readProduct_61 (fun (v9 : Int) (S10 : jSt) (hv9 : (v9) = 0 ∨ (v9) = 1) => ?_)
    refine j_pop dX4_readProduct_64 (fun h => nomatch h) ?_
    refine j_iincL (q := 2) dX4_readProduct_65 rfl (Nat.le_of_ble_eq_true rfl) (fun v11 hv11 => ?_)
    refine j_lv (lv' := [(2, 0, v11), (0, 2, x0), (1, 0, x1), (3, 0, x3)]) rfl ?_
    refine j_goto (tgt := 12) dX4_readProduct_68 rfl ?_
    refine j_sub [1, 2, 0] rfl ?_
    exact k12 x0 x1 v11 S10 h0 h1 hv11
  · refine j_iconst dX4_readProduct_56 ?_
    exact j_zreturn jz0 dX4_readProduct_57
def f_X4_readProduct_b12B (g_X4_readAsk : Int → Int → jSt → Option (Int × jSt)) (g_X4_readBoth : Int → Int → jSt → Option (Int × jSt)) (g_X4_readEither : Int → Int → jSt → Option (Int × jSt)) (g_X4_readIf : Int → Int → jSt → Option (Int × jSt)) (g_X4_readOne : Int → Int → jSt → Option (Int × jSt)) (g_X4_readProduct : Int → Int → jSt → Option (Int × jSt)) (g_X4_readSum : Int → Int → jSt → Option (Int × jSt)) (r12 : Int → Int → Int → jSt → Option (Int × jSt)) (x0 : Int) (x1 : Int) (x2 : Int) (S : jSt) : Option (Int × jSt) :=
  if 300 ≤ x2 then some (1, S) else fcallv S x0 4 (f_X4_kind x0 S) (fun v3 S4 => if v3 = 39 then f_X4_readProduct_b38 g_X4_readAsk g_X4_readBoth g_X4_readEither g_X4_readIf g_X4_readOne g_X4_readProduct g_X4_readSum r12 x0 x1 x2 v3 S4 else if v3 = 40 then f_X4_readProduct_b38 g_X4_readAsk g_X4_readBoth g_X4_readEither g_X4_readIf g_X4_readOne g_X4_readProduct g_X4_readSum r12 x0 x1 x2 v3 S4 else some (1, S4))
theorem p_f_X4_readProduct_b12B {G : jG} {d : Nat} {S0 : jSt} (hd0 : 4 ≤ d) {g_X4_readAsk : Int → Int → jSt → Option (Int × jSt)} {g_X4_readBoth : Int → Int → jSt → Option (Int × jSt)} {g_X4_readEither : Int → Int → jSt → Option (Int × jSt)} {g_X4_readIf : Int → Int → jSt → Option (Int × jSt)} {g_X4_readOne : Int → Int → jSt → Option (Int × jSt)} {g_X4_readProduct : Int → Int → jSt → Option (Int × jSt)} {g_X4_readSum : Int → Int → jSt → Option (Int × jSt)} {dg : Nat} (hdg : dg + 1 ≤ d) (q_X4_readAsk : ∀ (a0 : Int) (a1 : Int) (S : jSt), (0 ≤ (a0)) → (R32 (a1)) → CT G yX4_readAsk cX4_readAsk 3 (some .boolean) dg ([(2, a0), (0, a1)].map jval) S (g_X4_readAsk a0 a1 S)) (q_X4_readBoth : ∀ (a0 : Int) (a1 : Int) (S : jSt), (0 ≤ (a0)) → (R32 (a1)) → CT G yX4_readBoth cX4_readBoth 3 (some .boolean) dg ([(2, a0), (0, a1)].map jval) S (g_X4_readBoth a0 a1 S)) (q_X4_readEither : ∀ (a0 : Int) (a1 : Int) (S : jSt), (0 ≤ (a0)) → (R32 (a1)) → CT G yX4_readEither cX4_readEither 3 (some .boolean) dg ([(2, a0), (0, a1)].map jval) S (g_X4_readEither a0 a1 S)) (q_X4_readIf : ∀ (a0 : Int) (a1 : Int) (S : jSt), (0 ≤ (a0)) → (R32 (a1)) → CT G yX4_readIf cX4_readIf 4 (some .boolean) dg ([(2, a0), (0, a1)].map jval) S (g_X4_readIf a0 a1 S)) (q_X4_readOne : ∀ (a0 : Int) (a1 : Int) (S : jSt), (0 ≤ (a0)) → (R32 (a1)) → CT G yX4_readOne cX4_readOne 3 (some .boolean) dg ([(2, a0), (0, a1)].map jval) S (g_X4_readOne a0 a1 S)) (q_X4_readProduct : ∀ (a0 : Int) (a1 : Int) (S : jSt), (0 ≤ (a0)) → (R32 (a1)) → CT G yX4_readProduct cX4_readProduct 4 (some .boolean) dg ([(2, a0), (0, a1)].map jval) S (g_X4_readProduct a0 a1 S)) (q_X4_readSum : ∀ (a0 : Int) (a1 : Int) (S : jSt), (0 ≤ (a0)) → (R32 (a1)) → CT G yX4_readSum cX4_readSum 4 (some .boolean) dg ([(2, a0), (0, a1)].map jval) S (g_X4_readSum a0 a1 S)) {r12 : Int → Int → Int → jSt → Option (Int × jSt)} (k12 : ∀ (x0 : Int) (x1 : Int) (x2 : Int) (S : jSt), (0 ≤ (x0)) → (R32 (x1)) → (R32 (x2)) → J G yX4_readProduct cX4_readProduct 4 (some .boolean) d S0 12 [(0, 2, x0), (1, 0, x1), (2, 0, x2)] [] S (r12 x0 x1 x2 S)) : ∀ (x0 : Int) (x1 : Int) (x2 : Int) (S : jSt), (0 ≤ (x0)) → (R32 (x1)) → (R32 (x2)) → J G yX4_readProduct cX4_readProduct 4 (some .boolean) d S0 12 [(0, 2, x0), (1, 0, x1), (2, 0, x2)] [] S (f_X4_readProduct_b12B g_X4_readAsk g_X4_readBoth g_X4_readEither g_X4_readIf g_X4_readOne g_X4_readProduct g_X4_readSum r12 x0 x1 x2 S) := by
  intro x0 x1 x2 S h0 h1 h2
  unfold f_X4_readProduct_b12B
  refine j_iload_n 2 dX4_readProduct_12 rfl rfl ?_
  refine j_sipush dX4_readProduct_13 (by decide) ?_
  refine j_icmp_ge (tgt := 71) h2 (j_r32 300 rfl) dX4_readProduct_16 rfl (fun _ => ?_) (fun _ => ?_)
  · refine j_iconst dX4_readProduct_71 ?_
    exact j_zreturn jz1 dX4_readProduct_72
  · refine j_aload_n 0 dX4_readProduct_19 rfl rfl ?_
    refine j_callV (ci := 4) (As := []) (st := []) kc_X4_kind (c_X4_kind x0 S h0) rfl lm_X4_55 ki_X4_kind ke_X4_kind rfl (Nat.le_of_ble_eq_true rfl) (Nat.le_trans (m := 4) (Nat.le_of_ble_eq_true rfl) hd0) dX4_readProduct_20 (fun (v3 : Int) (S4 : jSt) (hv3 : R32 (v3)) => ?_)
    refine j_istore_n (lv' := [(3, 0, v3), (0, 2, x0), (1, 0, x1), (2, 0, x2)]) dX4_readProduct_23 rfl (Nat.le_of_ble_eq_true rfl) rfl ?_
    refine j_iload_n 0 dX4_readProduct_24 rfl rfl ?_
    refine j_bipush dX4_readProduct_25 (by decide) ?_
    refine j_icmp_eq (tgt := 38) hv3 (j_r32 39 rfl) dX4_readProduct_27 rfl (fun _ => ?_) (fun _ => ?_)
    · refine j_sub [1, 2, 3, 0] rfl ?_
      exact p_f_X4_readProduct_b38 hd0 hdg q_X4_readAsk q_X4_readBoth q_X4_readEither q_X4_readIf q_X4_readOne q_X4_readProduct q_X4_readSum k12 x0 x1 x2 v3 S4 h0 h1 h2 hv3
    · refine j_iload_n 0 dX4_readProduct_30 rfl rfl ?_
      refine j_bipush dX4_readProduct_31 (by decide) ?_
      refine j_icmp_eq (tgt := 38) hv3 (j_r32 40 rfl) dX4_readProduct_33 rfl (fun _ => ?_) (fun _ => ?_)
      · refine j_sub [1, 2, 3, 0] rfl ?_
        exact p_f_X4_readProduct_b38 hd0 hdg q_X4_readAsk q_X4_readBoth q_X4_readEither q_X4_readIf q_X4_readOne q_X4_readProduct q_X4_readSum k12 x0 x1 x2 v3 S4 h0 h1 h2 hv3
      · refine j_iconst dX4_readProduct_36 ?_
        exact j_zreturn jz1 dX4_readProduct_37
def f_X4_readProduct_b12 (g_X4_readAsk : Int → Int → jSt → Option (Int × jSt)) (g_X4_readBoth : Int → Int → jSt → Option (Int × jSt)) (g_X4_readEither : Int → Int → jSt → Option (Int × jSt)) (g_X4_readIf : Int → Int → jSt → Option (Int × jSt)) (g_X4_readOne : Int → Int → jSt → Option (Int × jSt)) (g_X4_readProduct : Int → Int → jSt → Option (Int × jSt)) (g_X4_readSum : Int → Int → jSt → Option (Int × jSt)) : Int → Int → Int → jSt → Option (Int × jSt) := jrep (β := Int → Int → Int → jSt → Option (Int × jSt)) (fun _ _ _ _ => none) (fun r => f_X4_readProduct_b12B g_X4_readAsk g_X4_readBoth g_X4_readEither g_X4_readIf g_X4_readOne g_X4_readProduct g_X4_readSum r) jN
theorem p_f_X4_readProduct_b12 {G : jG} {d : Nat} {S0 : jSt} (hd0 : 4 ≤ d) {g_X4_readAsk : Int → Int → jSt → Option (Int × jSt)} {g_X4_readBoth : Int → Int → jSt → Option (Int × jSt)} {g_X4_readEither : Int → Int → jSt → Option (Int × jSt)} {g_X4_readIf : Int → Int → jSt → Option (Int × jSt)} {g_X4_readOne : Int → Int → jSt → Option (Int × jSt)} {g_X4_readProduct : Int → Int → jSt → Option (Int × jSt)} {g_X4_readSum : Int → Int → jSt → Option (Int × jSt)} {dg : Nat} (hdg : dg + 1 ≤ d) (q_X4_readAsk : ∀ (a0 : Int) (a1 : Int) (S : jSt), (0 ≤ (a0)) → (R32 (a1)) → CT G yX4_readAsk cX4_readAsk 3 (some .boolean) dg ([(2, a0), (0, a1)].map jval) S (g_X4_readAsk a0 a1 S)) (q_X4_readBoth : ∀ (a0 : Int) (a1 : Int) (S : jSt), (0 ≤ (a0)) → (R32 (a1)) → CT G yX4_readBoth cX4_readBoth 3 (some .boolean) dg ([(2, a0), (0, a1)].map jval) S (g_X4_readBoth a0 a1 S)) (q_X4_readEither : ∀ (a0 : Int) (a1 : Int) (S : jSt), (0 ≤ (a0)) → (R32 (a1)) → CT G yX4_readEither cX4_readEither 3 (some .boolean) dg ([(2, a0), (0, a1)].map jval) S (g_X4_readEither a0 a1 S)) (q_X4_readIf : ∀ (a0 : Int) (a1 : Int) (S : jSt), (0 ≤ (a0)) → (R32 (a1)) → CT G yX4_readIf cX4_readIf 4 (some .boolean) dg ([(2, a0), (0, a1)].map jval) S (g_X4_readIf a0 a1 S)) (q_X4_readOne : ∀ (a0 : Int) (a1 : Int) (S : jSt), (0 ≤ (a0)) → (R32 (a1)) → CT G yX4_readOne cX4_readOne 3 (some .boolean) dg ([(2, a0), (0, a1)].map jval) S (g_X4_readOne a0 a1 S)) (q_X4_readProduct : ∀ (a0 : Int) (a1 : Int) (S : jSt), (0 ≤ (a0)) → (R32 (a1)) → CT G yX4_readProduct cX4_readProduct 4 (some .boolean) dg ([(2, a0), (0, a1)].map jval) S (g_X4_readProduct a0 a1 S)) (q_X4_readSum : ∀ (a0 : Int) (a1 : Int) (S : jSt), (0 ≤ (a0)) → (R32 (a1)) → CT G yX4_readSum cX4_readSum 4 (some .boolean) dg ([(2, a0), (0, a1)].map jval) S (g_X4_readSum a0 a1 S)) : ∀ (x0 : Int) (x1 : Int) (x2 : Int) (S : jSt), (0 ≤ (x0)) → (R32 (x1)) → (R32 (x2)) → J G yX4_readProduct cX4_readProduct 4 (some .boolean) d S0 12 [(0, 2, x0), (1, 0, x1), (2, 0, x2)] [] S (f_X4_readProduct_b12 g_X4_readAsk g_X4_readBoth g_X4_readEither g_X4_readIf g_X4_readOne g_X4_readProduct g_X4_readSum x0 x1 x2 S) :=
  jrep_ind (P := fun (r : Int → Int → Int → jSt → Option (Int × jSt)) => ∀ (x0 : Int) (x1 : Int) (x2 : Int) (S : jSt), (0 ≤ (x0)) → (R32 (x1)) → (R32 (x2)) → J G yX4_readProduct cX4_readProduct 4 (some .boolean) d S0 12 [(0, 2, x0), (1, 0, x1), (2, 0, x2)] [] S (r x0 x1 x2 S)) (by intros; exact j_none) (fun r k => p_f_X4_readProduct_b12B hd0 hdg q_X4_readAsk q_X4_readBoth q_X4_readEither q_X4_readIf q_X4_readOne q_X4_readProduct q_X4_readSum k) jN
def f_X4_readProduct_G (g_X4_readAsk : Int → Int → jSt → Option (Int × jSt)) (g_X4_readBoth : Int → Int → jSt → Option (Int × jSt)) (g_X4_readEither : Int → Int → jSt → Option (Int × jSt)) (g_X4_readIf : Int → Int → jSt → Option (Int × jSt)) (g_X4_readOne : Int → Int → jSt → Option (Int × jSt)) (g_X4_readProduct : Int → Int → jSt → Option (Int × jSt)) (g_X4_readSum : Int → Int → jSt → Option (Int × jSt)) (a0 : Int) (a1 : Int) (S : jSt) : Option (Int × jSt) :=
  fcallv S a0 4 (g_X4_readOne a0 a1 S) (fun v1 S2 => if v1 = 0 then some (0, S2) else f_X4_readProduct_b12 g_X4_readAsk g_X4_readBoth g_X4_readEither g_X4_readIf g_X4_readOne g_X4_readProduct g_X4_readSum a0 a1 0 S2)
theorem e_X4_readProduct_G {G : jG} {d : Nat} {S0 : jSt} (hd0 : 4 ≤ d) {g_X4_readAsk : Int → Int → jSt → Option (Int × jSt)} {g_X4_readBoth : Int → Int → jSt → Option (Int × jSt)} {g_X4_readEither : Int → Int → jSt → Option (Int × jSt)} {g_X4_readIf : Int → Int → jSt → Option (Int × jSt)} {g_X4_readOne : Int → Int → jSt → Option (Int × jSt)} {g_X4_readProduct : Int → Int → jSt → Option (Int × jSt)} {g_X4_readSum : Int → Int → jSt → Option (Int × jSt)} {dg : Nat} (hdg : dg + 1 ≤ d) (q_X4_readAsk : ∀ (a0 : Int) (a1 : Int) (S : jSt), (0 ≤ (a0)) → (R32 (a1)) → CT G yX4_readAsk cX4_readAsk 3 (some .boolean) dg ([(2, a0), (0, a1)].map jval) S (g_X4_readAsk a0 a1 S)) (q_X4_readBoth : ∀ (a0 : Int) (a1 : Int) (S : jSt), (0 ≤ (a0)) → (R32 (a1)) → CT G yX4_readBoth cX4_readBoth 3 (some .boolean) dg ([(2, a0), (0, a1)].map jval) S (g_X4_readBoth a0 a1 S)) (q_X4_readEither : ∀ (a0 : Int) (a1 : Int) (S : jSt), (0 ≤ (a0)) → (R32 (a1)) → CT G yX4_readEither cX4_readEither 3 (some .boolean) dg ([(2, a0), (0, a1)].map jval) S (g_X4_readEither a0 a1 S)) (q_X4_readIf : ∀ (a0 : Int) (a1 : Int) (S : jSt), (0 ≤ (a0)) → (R32 (a1)) → CT G yX4_readIf cX4_readIf 4 (some .boolean) dg ([(2, a0), (0, a1)].map jval) S (g_X4_readIf a0 a1 S)) (q_X4_readOne : ∀ (a0 : Int) (a1 : Int) (S : jSt), (0 ≤ (a0)) → (R32 (a1)) → CT G yX4_readOne cX4_readOne 3 (some .boolean) dg ([(2, a0), (0, a1)].map jval) S (g_X4_readOne a0 a1 S)) (q_X4_readProduct : ∀ (a0 : Int) (a1 : Int) (S : jSt), (0 ≤ (a0)) → (R32 (a1)) → CT G yX4_readProduct cX4_readProduct 4 (some .boolean) dg ([(2, a0), (0, a1)].map jval) S (g_X4_readProduct a0 a1 S)) (q_X4_readSum : ∀ (a0 : Int) (a1 : Int) (S : jSt), (0 ≤ (a0)) → (R32 (a1)) → CT G yX4_readSum cX4_readSum 4 (some .boolean) dg ([(2, a0), (0, a1)].map jval) S (g_X4_readSum a0 a1 S)) (a0 : Int) (a1 : Int) (S : jSt) (h0 : 0 ≤ (a0)) (h1 : R32 (a1)) : J G yX4_readProduct cX4_readProduct 4 (some .boolean) d S0 0 [(0, 2, a0), (1, 0, a1)] [] S (f_X4_readProduct_G g_X4_readAsk g_X4_readBoth g_X4_readEither g_X4_readIf g_X4_readOne g_X4_readProduct g_X4_readSum a0 a1 S) := by
  unfold f_X4_readProduct_G
  refine j_aload_n 0 dX4_readProduct_0 rfl rfl ?_
  refine j_iload_n 1 dX4_readProduct_1 rfl rfl ?_
  refine j_callV (ci := 4) (As := [(0, a1)]) (st := []) kc_X4_readOne (q_X4_readOne a0 a1 S h0 h1) rfl lm_X4_120 ki_X4_readOne ke_X4_readOne rfl (Nat.le_of_ble_eq_true rfl) hdg dX4_readProduct_2 (fun (v1 : Int) (S2 : jSt) (hv1 : (v1) = 0 ∨ (v1) = 1) => ?_)
  refine j_if_ne (tgt := 10) (jZ_R hv1) dX4_readProduct_5 rfl (fun _ => ?_) (fun _ => ?_)
  · refine j_iconst dX4_readProduct_10 ?_
    refine j_istore_n (lv' := [(2, 0, 0), (0, 2, a0), (1, 0, a1)]) dX4_readProduct_11 rfl (Nat.le_of_ble_eq_true rfl) rfl ?_
    refine j_sub [1, 2, 0] rfl ?_
    exact p_f_X4_readProduct_b12 hd0 hdg q_X4_readAsk q_X4_readBoth q_X4_readEither q_X4_readIf q_X4_readOne q_X4_readProduct q_X4_readSum a0 a1 0 S2 h0 h1 (jZ_R jz0)
  · refine j_iconst dX4_readProduct_8 ?_
    exact j_zreturn jz0 dX4_readProduct_9
def f_X4_readSum_b38 (g_X4_readAsk : Int → Int → jSt → Option (Int × jSt)) (g_X4_readBoth : Int → Int → jSt → Option (Int × jSt)) (g_X4_readEither : Int → Int → jSt → Option (Int × jSt)) (g_X4_readIf : Int → Int → jSt → Option (Int × jSt)) (g_X4_readOne : Int → Int → jSt → Option (Int × jSt)) (g_X4_readProduct : Int → Int → jSt → Option (Int × jSt)) (g_X4_readSum : Int → Int → jSt → Option (Int × jSt)) (r12 : Int → Int → Int → jSt → Option (Int × jSt)) (x0 : Int) (x1 : Int) (x2 : Int) (x3 : Int) (S : jSt) : Option (Int × jSt) :=
  fget S x0 4 3 (fun v5 => fput S x0 4 3 (w32 (v5 + 1)) (fun S6 => fcallv S6 x0 4 (g_X4_readProduct x0 x1 S6) (fun v7 S8 => if v7 = 0 then some (0, S8) else fcallv S8 x0 4 (f_X4_emit x0 x3 0 S8) (fun v9 S10 => flet (w32 (x2 + 1)) (fun v11 => r12 x0 x1 v11 S10)))))
theorem p_f_X4_readSum_b38 {G : jG} {d : Nat} {S0 : jSt} (hd0 : 4 ≤ d) {g_X4_readAsk : Int → Int → jSt → Option (Int × jSt)} {g_X4_readBoth : Int → Int → jSt → Option (Int × jSt)} {g_X4_readEither : Int → Int → jSt → Option (Int × jSt)} {g_X4_readIf : Int → Int → jSt → Option (Int × jSt)} {g_X4_readOne : Int → Int → jSt → Option (Int × jSt)} {g_X4_readProduct : Int → Int → jSt → Option (Int × jSt)} {g_X4_readSum : Int → Int → jSt → Option (Int × jSt)} {dg : Nat} (hdg : dg + 1 ≤ d) (q_X4_readAsk : ∀ (a0 : Int) (a1 : Int) (S : jSt), (0 ≤ (a0)) → (R32 (a1)) → CT G yX4_readAsk cX4_readAsk 3 (some .boolean) dg ([(2, a0), (0, a1)].map jval) S (g_X4_readAsk a0 a1 S)) (q_X4_readBoth : ∀ (a0 : Int) (a1 : Int) (S : jSt), (0 ≤ (a0)) → (R32 (a1)) → CT G yX4_readBoth cX4_readBoth 3 (some .boolean) dg ([(2, a0), (0, a1)].map jval) S (g_X4_readBoth a0 a1 S)) (q_X4_readEither : ∀ (a0 : Int) (a1 : Int) (S : jSt), (0 ≤ (a0)) → (R32 (a1)) → CT G yX4_readEither cX4_readEither 3 (some .boolean) dg ([(2, a0), (0, a1)].map jval) S (g_X4_readEither a0 a1 S)) (q_X4_readIf : ∀ (a0 : Int) (a1 : Int) (S : jSt), (0 ≤ (a0)) → (R32 (a1)) → CT G yX4_readIf cX4_readIf 4 (some .boolean) dg ([(2, a0), (0, a1)].map jval) S (g_X4_readIf a0 a1 S)) (q_X4_readOne : ∀ (a0 : Int) (a1 : Int) (S : jSt), (0 ≤ (a0)) → (R32 (a1)) → CT G yX4_readOne cX4_readOne 3 (some .boolean) dg ([(2, a0), (0, a1)].map jval) S (g_X4_readOne a0 a1 S)) (q_X4_readProduct : ∀ (a0 : Int) (a1 : Int) (S : jSt), (0 ≤ (a0)) → (R32 (a1)) → CT G yX4_readProduct cX4_readProduct 4 (some .boolean) dg ([(2, a0), (0, a1)].map jval) S (g_X4_readProduct a0 a1 S)) (q_X4_readSum : ∀ (a0 : Int) (a1 : Int) (S : jSt), (0 ≤ (a0)) → (R32 (a1)) → CT G yX4_readSum cX4_readSum 4 (some .boolean) dg ([(2, a0), (0, a1)].map jval) S (g_X4_readSum a0 a1 S)) {r12 : Int → Int → Int → jSt → Option (Int × jSt)} (k12 : ∀ (x0 : Int) (x1 : Int) (x2 : Int) (S : jSt), (0 ≤ (x0)) → (R32 (x1)) → (R32 (x2)) → J G yX4_readSum cX4_readSum 4 (some .boolean) d S0 12 [(0, 2, x0), (1, 0, x1), (2, 0, x2)] [] S (r12 x0 x1 x2 S)) : ∀ (x0 : Int) (x1 : Int) (x2 : Int) (x3 : Int) (S : jSt), (0 ≤ (x0)) → (R32 (x1)) → (R32 (x2)) → (R32 (x3)) → J G yX4_readSum cX4_readSum 4 (some .boolean) d S0 38 [(0, 2, x0), (1, 0, x1), (2, 0, x2), (3, 0, x3)] [] S (f_X4_readSum_b38 g_X4_readAsk g_X4_readBoth g_X4_readEither g_X4_readIf g_X4_readOne g_X4_readProduct g_X4_readSum r12 x0 x1 x2 x3 S) := by
  intro x0 x1 x2 x3 S h0 h1 h2 h3
  unfold f_X4_readSum_b38
  refine j_aload_n 0 dX4_readSum_38 rfl rfl ?_
  refine j_dup dX4_readSum_39 (fun h => nomatch h) ?_
  refine j_get (ci := 4) (k := 3) (t := 0) rfl in_X4 (Nat.le_of_ble_eq_true rfl) rfl rfl fl_X4_40 dX4_readSum_40 (fun (v5 : Int) (hv5 : R32 (v5)) => ?_)
  refine j_iconst dX4_readSum_43 ?_
  refine j_iadd dX4_readSum_44 ?_
  refine j_puti (ci := 4) (k := 3) (ty0 := tyX4) rfl in_X4 (Nat.le_of_ble_eq_true rfl) rfl tyX4_ok nmX4 rfl rfl (by decide +kernel) (w32_R _) fl_X4_40 dX4_readSum_45 (fun S6 => ?_)
  refine j_aload_n 0 dX4_readSum_48 rfl rfl ?_
  refine j_iload_n 1 dX4_readSum_49 rfl rfl ?_
  refine j_callV (ci := 4) (As := [(0, x1)]) (st := []) kc_X4_readProduct (q_X4_readProduct x0 x1 S6 h0 h1) rfl lm_X4_113 ki_X4_readProduct ke_X4_readProduct rfl (Nat.le_of_ble_eq_true rfl) hdg dX4_readSum_50 (fun (v7 : Int) (S8 : jSt) (hv7 : (v7) = 0 ∨ (v7) = 1) => ?_)
  refine j_if_ne (tgt := 58) (jZ_R hv7) dX4_readSum_53 rfl (fun _ => ?_) (fun _ => ?_)
  · refine j_aload_n 0 dX4_readSum_58 rfl rfl ?_
    refine j_iload_n 3 dX4_readSum_59 rfl rfl ?_
    refine j_iconst dX4_readSum_60 ?_
    refine j_callV (ci := 4) (As := [(0, x3), (0, 0)]) (st := []) kc_X4_emit (c_X4_emit x0 x3 0 S8 h0 h3 (jZ_R jz0)) rfl lm_X4_116 ki_X4_emit ke_X4_emit rfl (Nat.le_of_ble_eq_true rfl) (Nat.le_trans (m := 4) (Nat.le_of_ble_eq_true rfl) hd0) dX4_readSum_61 (fun (v9 : Int) (S10 : jSt) (hv9 : (v9) = 0 ∨ (v9) = 1) => ?_)
    refine j_pop dX4_readSum_64 (fun h => nomatch h) ?_
    refine j_iincL (q := 2) dX4_readSum_65 rfl (Nat.le_of_ble_eq_true rfl) (fun v11 hv11 => ?_)
    refine j_lv (lv' := [(2, 0, v11), (0, 2, x0), (1, 0, x1), (3, 0, x3)]) rfl ?_
    refine j_goto (tgt := 12) dX4_readSum_68 rfl ?_
    refine j_sub [1, 2, 0] rfl ?_
    exact k12 x0 x1 v11 S10 h0 h1 hv11
  · refine j_iconst dX4_readSum_56 ?_
    exact j_zreturn jz0 dX4_readSum_57
def f_X4_readSum_b12B (g_X4_readAsk : Int → Int → jSt → Option (Int × jSt)) (g_X4_readBoth : Int → Int → jSt → Option (Int × jSt)) (g_X4_readEither : Int → Int → jSt → Option (Int × jSt)) (g_X4_readIf : Int → Int → jSt → Option (Int × jSt)) (g_X4_readOne : Int → Int → jSt → Option (Int × jSt)) (g_X4_readProduct : Int → Int → jSt → Option (Int × jSt)) (g_X4_readSum : Int → Int → jSt → Option (Int × jSt)) (r12 : Int → Int → Int → jSt → Option (Int × jSt)) (x0 : Int) (x1 : Int) (x2 : Int) (S : jSt) : Option (Int × jSt) :=
  if 300 ≤ x2 then some (1, S) else fcallv S x0 4 (f_X4_kind x0 S) (fun v3 S4 => if v3 = 37 then f_X4_readSum_b38 g_X4_readAsk g_X4_readBoth g_X4_readEither g_X4_readIf g_X4_readOne g_X4_readProduct g_X4_readSum r12 x0 x1 x2 v3 S4 else if v3 = 38 then f_X4_readSum_b38 g_X4_readAsk g_X4_readBoth g_X4_readEither g_X4_readIf g_X4_readOne g_X4_readProduct g_X4_readSum r12 x0 x1 x2 v3 S4 else some (1, S4))
theorem p_f_X4_readSum_b12B {G : jG} {d : Nat} {S0 : jSt} (hd0 : 4 ≤ d) {g_X4_readAsk : Int → Int → jSt → Option (Int × jSt)} {g_X4_readBoth : Int → Int → jSt → Option (Int × jSt)} {g_X4_readEither : Int → Int → jSt → Option (Int × jSt)} {g_X4_readIf : Int → Int → jSt → Option (Int × jSt)} {g_X4_readOne : Int → Int → jSt → Option (Int × jSt)} {g_X4_readProduct : Int → Int → jSt → Option (Int × jSt)} {g_X4_readSum : Int → Int → jSt → Option (Int × jSt)} {dg : Nat} (hdg : dg + 1 ≤ d) (q_X4_readAsk : ∀ (a0 : Int) (a1 : Int) (S : jSt), (0 ≤ (a0)) → (R32 (a1)) → CT G yX4_readAsk cX4_readAsk 3 (some .boolean) dg ([(2, a0), (0, a1)].map jval) S (g_X4_readAsk a0 a1 S)) (q_X4_readBoth : ∀ (a0 : Int) (a1 : Int) (S : jSt), (0 ≤ (a0)) → (R32 (a1)) → CT G yX4_readBoth cX4_readBoth 3 (some .boolean) dg ([(2, a0), (0, a1)].map jval) S (g_X4_readBoth a0 a1 S)) (q_X4_readEither : ∀ (a0 : Int) (a1 : Int) (S : jSt), (0 ≤ (a0)) → (R32 (a1)) → CT G yX4_readEither cX4_readEither 3 (some .boolean) dg ([(2, a0), (0, a1)].map jval) S (g_X4_readEither a0 a1 S)) (q_X4_readIf : ∀ (a0 : Int) (a1 : Int) (S : jSt), (0 ≤ (a0)) → (R32 (a1)) → CT G yX4_readIf cX4_readIf 4 (some .boolean) dg ([(2, a0), (0, a1)].map jval) S (g_X4_readIf a0 a1 S)) (q_X4_readOne : ∀ (a0 : Int) (a1 : Int) (S : jSt), (0 ≤ (a0)) → (R32 (a1)) → CT G yX4_readOne cX4_readOne 3 (some .boolean) dg ([(2, a0), (0, a1)].map jval) S (g_X4_readOne a0 a1 S)) (q_X4_readProduct : ∀ (a0 : Int) (a1 : Int) (S : jSt), (0 ≤ (a0)) → (R32 (a1)) → CT G yX4_readProduct cX4_readProduct 4 (some .boolean) dg ([(2, a0), (0, a1)].map jval) S (g_X4_readProduct a0 a1 S)) (q_X4_readSum : ∀ (a0 : Int) (a1 : Int) (S : jSt), (0 ≤ (a0)) → (R32 (a1)) → CT G yX4_readSum cX4_readSum 4 (some .boolean) dg ([(2, a0), (0, a1)].map jval) S (g_X4_readSum a0 a1 S)) {r12 : Int → Int → Int → jSt → Option (Int × jSt)} (k12 : ∀ (x0 : Int) (x1 : Int) (x2 : Int) (S : jSt), (0 ≤ (x0)) → (R32 (x1)) → (R32 (x2)) → J G yX4_readSum cX4_readSum 4 (some .boolean) d S0 12 [(0, 2, x0), (1, 0, x1), (2, 0, x2)] [] S (r12 x0 x1 x2 S)) : ∀ (x0 : Int) (x1 : Int) (x2 : Int) (S : jSt), (0 ≤ (x0)) → (R32 (x1)) → (R32 (x2)) → J G yX4_readSum cX4_readSum 4 (some .boolean) d S0 12 [(0, 2, x0), (1, 0, x1), (2, 0, x2)] [] S (f_X4_readSum_b12B g_X4_readAsk g_X4_readBoth g_X4_readEither g_X4_readIf g_X4_readOne g_X4_readProduct g_X4_readSum r12 x0 x1 x2 S) := by
  intro x0 x1 x2 S h0 h1 h2
  unfold f_X4_readSum_b12B
  refine j_iload_n 2 dX4_readSum_12 rfl rfl ?_
  refine j_sipush dX4_readSum_13 (by decide) ?_
  refine j_icmp_ge (tgt := 71) h2 (j_r32 300 rfl) dX4_readSum_16 rfl (fun _ => ?_) (fun _ => ?_)
  · refine j_iconst dX4_readSum_71 ?_
    exact j_zreturn jz1 dX4_readSum_72
  · refine j_aload_n 0 dX4_readSum_19 rfl rfl ?_
    refine j_callV (ci := 4) (As := []) (st := []) kc_X4_kind (c_X4_kind x0 S h0) rfl lm_X4_55 ki_X4_kind ke_X4_kind rfl (Nat.le_of_ble_eq_true rfl) (Nat.le_trans (m := 4) (Nat.le_of_ble_eq_true rfl) hd0) dX4_readSum_20 (fun (v3 : Int) (S4 : jSt) (hv3 : R32 (v3)) => ?_)
    refine j_istore_n (lv' := [(3, 0, v3), (0, 2, x0), (1, 0, x1), (2, 0, x2)]) dX4_readSum_23 rfl (Nat.le_of_ble_eq_true rfl) rfl ?_
    refine j_iload_n 0 dX4_readSum_24 rfl rfl ?_
    refine j_bipush dX4_readSum_25 (by decide) ?_
    refine j_icmp_eq (tgt := 38) hv3 (j_r32 37 rfl) dX4_readSum_27 rfl (fun _ => ?_) (fun _ => ?_)
    · refine j_sub [1, 2, 3, 0] rfl ?_
      exact p_f_X4_readSum_b38 hd0 hdg q_X4_readAsk q_X4_readBoth q_X4_readEither q_X4_readIf q_X4_readOne q_X4_readProduct q_X4_readSum k12 x0 x1 x2 v3 S4 h0 h1 h2 hv3
    · refine j_iload_n 0 dX4_readSum_30 rfl rfl ?_
      refine j_bipush dX4_readSum_31 (by decide) ?_
      refine j_icmp_eq (tgt := 38) hv3 (j_r32 38 rfl) dX4_readSum_33 rfl (fun _ => ?_) (fun _ => ?_)
      · refine j_sub [1, 2, 3, 0] rfl ?_
        exact p_f_X4_readSum_b38 hd0 hdg q_X4_readAsk q_X4_readBoth q_X4_readEither q_X4_readIf q_X4_readOne q_X4_readProduct q_X4_readSum k12 x0 x1 x2 v3 S4 h0 h1 h2 hv3
      · refine j_iconst dX4_readSum_36 ?_
        exact j_zreturn jz1 dX4_readSum_37
def f_X4_readSum_b12 (g_X4_readAsk : Int → Int → jSt → Option (Int × jSt)) (g_X4_readBoth : Int → Int → jSt → Option (Int × jSt)) (g_X4_readEither : Int → Int → jSt → Option (Int × jSt)) (g_X4_readIf : Int → Int → jSt → Option (Int × jSt)) (g_X4_readOne : Int → Int → jSt → Option (Int × jSt)) (g_X4_readProduct : Int → Int → jSt → Option (Int × jSt)) (g_X4_readSum : Int → Int → jSt → Option (Int × jSt)) : Int → Int → Int → jSt → Option (Int × jSt) := jrep (β := Int → Int → Int → jSt → Option (Int × jSt)) (fun _ _ _ _ => none) (fun r => f_X4_readSum_b12B g_X4_readAsk g_X4_readBoth g_X4_readEither g_X4_readIf g_X4_readOne g_X4_readProduct g_X4_readSum r) jN
theorem p_f_X4_readSum_b12 {G : jG} {d : Nat} {S0 : jSt} (hd0 : 4 ≤ d) {g_X4_readAsk : Int → Int → jSt → Option (Int × jSt)} {g_X4_readBoth : Int → Int → jSt → Option (Int × jSt)} {g_X4_readEither : Int → Int → jSt → Option (Int × jSt)} {g_X4_readIf : Int → Int → jSt → Option (Int × jSt)} {g_X4_readOne : Int → Int → jSt → Option (Int × jSt)} {g_X4_readProduct : Int → Int → jSt → Option (Int × jSt)} {g_X4_readSum : Int → Int → jSt → Option (Int × jSt)} {dg : Nat} (hdg : dg + 1 ≤ d) (q_X4_readAsk : ∀ (a0 : Int) (a1 : Int) (S : jSt), (0 ≤ (a0)) → (R32 (a1)) → CT G yX4_readAsk cX4_readAsk 3 (some .boolean) dg ([(2, a0), (0, a1)].map jval) S (g_X4_readAsk a0 a1 S)) (q_X4_readBoth : ∀ (a0 : Int) (a1 : Int) (S : jSt), (0 ≤ (a0)) → (R32 (a1)) → CT G yX4_readBoth cX4_readBoth 3 (some .boolean) dg ([(2, a0), (0, a1)].map jval) S (g_X4_readBoth a0 a1 S)) (q_X4_readEither : ∀ (a0 : Int) (a1 : Int) (S : jSt), (0 ≤ (a0)) → (R32 (a1)) → CT G yX4_readEither cX4_readEither 3 (some .boolean) dg ([(2, a0), (0, a1)].map jval) S (g_X4_readEither a0 a1 S)) (q_X4_readIf : ∀ (a0 : Int) (a1 : Int) (S : jSt), (0 ≤ (a0)) → (R32 (a1)) → CT G yX4_readIf cX4_readIf 4 (some .boolean) dg ([(2, a0), (0, a1)].map jval) S (g_X4_readIf a0 a1 S)) (q_X4_readOne : ∀ (a0 : Int) (a1 : Int) (S : jSt), (0 ≤ (a0)) → (R32 (a1)) → CT G yX4_readOne cX4_readOne 3 (some .boolean) dg ([(2, a0), (0, a1)].map jval) S (g_X4_readOne a0 a1 S)) (q_X4_readProduct : ∀ (a0 : Int) (a1 : Int) (S : jSt), (0 ≤ (a0)) → (R32 (a1)) → CT G yX4_readProduct cX4_readProduct 4 (some .boolean) dg ([(2, a0), (0, a1)].map jval) S (g_X4_readProduct a0 a1 S)) (q_X4_readSum : ∀ (a0 : Int) (a1 : Int) (S : jSt), (0 ≤ (a0)) → (R32 (a1)) → CT G yX4_readSum cX4_readSum 4 (some .boolean) dg ([(2, a0), (0, a1)].map jval) S (g_X4_readSum a0 a1 S)) : ∀ (x0 : Int) (x1 : Int) (x2 : Int) (S : jSt), (0 ≤ (x0)) → (R32 (x1)) → (R32 (x2)) → J G yX4_readSum cX4_readSum 4 (some .boolean) d S0 12 [(0, 2, x0), (1, 0, x1), (2, 0, x2)] [] S (f_X4_readSum_b12 g_X4_readAsk g_X4_readBoth g_X4_readEither g_X4_readIf g_X4_readOne g_X4_readProduct g_X4_readSum x0 x1 x2 S) :=
  jrep_ind (P := fun (r : Int → Int → Int → jSt → Option (Int × jSt)) => ∀ (x0 : Int) (x1 : Int) (x2 : Int) (S : jSt), (0 ≤ (x0)) → (R32 (x1)) → (R32 (x2)) → J G yX4_readSum cX4_readSum 4 (some .boolean) d S0 12 [(0, 2, x0), (1, 0, x1), (2, 0, x2)] [] S (r x0 x1 x2 S)) (by intros; exact j_none) (fun r k => p_f_X4_readSum_b12B hd0 hdg q_X4_readAsk q_X4_readBoth q_X4_readEither q_X4_readIf q_X4_readOne q_X4_readProduct q_X4_readSum k) jN
def f_X4_readSum_G (g_X4_readAsk : Int → Int → jSt → Option (Int × jSt)) (g_X4_readBoth : Int → Int → jSt → Option (Int × jSt)) (g_X4_readEither : Int → Int → jSt → Option (Int × jSt)) (g_X4_readIf : Int → Int → jSt → Option (Int × jSt)) (g_X4_readOne : Int → Int → jSt → Option (Int × jSt)) (g_X4_readProduct : Int → Int → jSt → Option (Int × jSt)) (g_X4_readSum : Int → Int → jSt → Option (Int × jSt)) (a0 : Int) (a1 : Int) (S : jSt) : Option (Int × jSt) :=
  fcallv S a0 4 (g_X4_readProduct a0 a1 S) (fun v1 S2 => if v1 = 0 then some (0, S2) else f_X4_readSum_b12 g_X4_readAsk g_X4_readBoth g_X4_readEither g_X4_readIf g_X4_readOne g_X4_readProduct g_X4_readSum a0 a1 0 S2)
theorem e_X4_readSum_G {G : jG} {d : Nat} {S0 : jSt} (hd0 : 4 ≤ d) {g_X4_readAsk : Int → Int → jSt → Option (Int × jSt)} {g_X4_readBoth : Int → Int → jSt → Option (Int × jSt)} {g_X4_readEither : Int → Int → jSt → Option (Int × jSt)} {g_X4_readIf : Int → Int → jSt → Option (Int × jSt)} {g_X4_readOne : Int → Int → jSt → Option (Int × jSt)} {g_X4_readProduct : Int → Int → jSt → Option (Int × jSt)} {g_X4_readSum : Int → Int → jSt → Option (Int × jSt)} {dg : Nat} (hdg : dg + 1 ≤ d) (q_X4_readAsk : ∀ (a0 : Int) (a1 : Int) (S : jSt), (0 ≤ (a0)) → (R32 (a1)) → CT G yX4_readAsk cX4_readAsk 3 (some .boolean) dg ([(2, a0), (0, a1)].map jval) S (g_X4_readAsk a0 a1 S)) (q_X4_readBoth : ∀ (a0 : Int) (a1 : Int) (S : jSt), (0 ≤ (a0)) → (R32 (a1)) → CT G yX4_readBoth cX4_readBoth 3 (some .boolean) dg ([(2, a0), (0, a1)].map jval) S (g_X4_readBoth a0 a1 S)) (q_X4_readEither : ∀ (a0 : Int) (a1 : Int) (S : jSt), (0 ≤ (a0)) → (R32 (a1)) → CT G yX4_readEither cX4_readEither 3 (some .boolean) dg ([(2, a0), (0, a1)].map jval) S (g_X4_readEither a0 a1 S)) (q_X4_readIf : ∀ (a0 : Int) (a1 : Int) (S : jSt), (0 ≤ (a0)) → (R32 (a1)) → CT G yX4_readIf cX4_readIf 4 (some .boolean) dg ([(2, a0), (0, a1)].map jval) S (g_X4_readIf a0 a1 S)) (q_X4_readOne : ∀ (a0 : Int) (a1 : Int) (S : jSt), (0 ≤ (a0)) → (R32 (a1)) → CT G yX4_readOne cX4_readOne 3 (some .boolean) dg ([(2, a0), (0, a1)].map jval) S (g_X4_readOne a0 a1 S)) (q_X4_readProduct : ∀ (a0 : Int) (a1 : Int) (S : jSt), (0 ≤ (a0)) → (R32 (a1)) → CT G yX4_readProduct cX4_readProduct 4 (some .boolean) dg ([(2, a0), (0, a1)].map jval) S (g_X4_readProduct a0 a1 S)) (q_X4_readSum : ∀ (a0 : Int) (a1 : Int) (S : jSt), (0 ≤ (a0)) → (R32 (a1)) → CT G yX4_readSum cX4_readSum 4 (some .boolean) dg ([(2, a0), (0, a1)].map jval) S (g_X4_readSum a0 a1 S)) (a0 : Int) (a1 : Int) (S : jSt) (h0 : 0 ≤ (a0)) (h1 : R32 (a1)) : J G yX4_readSum cX4_readSum 4 (some .boolean) d S0 0 [(0, 2, a0), (1, 0, a1)] [] S (f_X4_readSum_G g_X4_readAsk g_X4_readBoth g_X4_readEither g_X4_readIf g_X4_readOne g_X4_readProduct g_X4_readSum a0 a1 S) := by
  unfold f_X4_readSum_G
  refine j_aload_n 0 dX4_readSum_0 rfl rfl ?_
  refine j_iload_n 1 dX4_readSum_1 rfl rfl ?_
  refine j_callV (ci := 4) (As := [(0, a1)]) (st := []) kc_X4_readProduct (q_X4_readProduct a0 a1 S h0 h1) rfl lm_X4_113 ki_X4_readProduct ke_X4_readProduct rfl (Nat.le_of_ble_eq_true rfl) hdg dX4_readSum_2 (fun (v1 : Int) (S2 : jSt) (hv1 : (v1) = 0 ∨ (v1) = 1) => ?_)
  refine j_if_ne (tgt := 10) (jZ_R hv1) dX4_readSum_5 rfl (fun _ => ?_) (fun _ => ?_)
  · refine j_iconst dX4_readSum_10 ?_
    refine j_istore_n (lv' := [(2, 0, 0), (0, 2, a0), (1, 0, a1)]) dX4_readSum_11 rfl (Nat.le_of_ble_eq_true rfl) rfl ?_
    refine j_sub [1, 2, 0] rfl ?_
    exact p_f_X4_readSum_b12 hd0 hdg q_X4_readAsk q_X4_readBoth q_X4_readEither q_X4_readIf q_X4_readOne q_X4_readProduct q_X4_readSum a0 a1 0 S2 h0 h1 (jZ_R jz0)
  · refine j_iconst dX4_readSum_8 ?_
    exact j_zreturn jz0 dX4_readSum_9
def grp_X4_readAsk : Nat → (Int → Int → jSt → Option (Int × jSt)) × (Int → Int → jSt → Option (Int × jSt)) × (Int → Int → jSt → Option (Int × jSt)) × (Int → Int → jSt → Option (Int × jSt)) × (Int → Int → jSt → Option (Int × jSt)) × (Int → Int → jSt → Option (Int × jSt)) × (Int → Int → jSt → Option (Int × jSt)) := jrep (β := (Int → Int → jSt → Option (Int × jSt)) × (Int → Int → jSt → Option (Int × jSt)) × (Int → Int → jSt → Option (Int × jSt)) × (Int → Int → jSt → Option (Int × jSt)) × (Int → Int → jSt → Option (Int × jSt)) × (Int → Int → jSt → Option (Int × jSt)) × (Int → Int → jSt → Option (Int × jSt))) ((fun _ _ _ => none), (fun _ _ _ => none), (fun _ _ _ => none), (fun _ _ _ => none), (fun _ _ _ => none), (fun _ _ _ => none), (fun _ _ _ => none)) (fun g => (f_X4_readAsk_G g.1 g.2.1 g.2.2.1 g.2.2.2.1 g.2.2.2.2.1 g.2.2.2.2.2.1 g.2.2.2.2.2.2, f_X4_readBoth_G g.1 g.2.1 g.2.2.1 g.2.2.2.1 g.2.2.2.2.1 g.2.2.2.2.2.1 g.2.2.2.2.2.2, f_X4_readEither_G g.1 g.2.1 g.2.2.1 g.2.2.2.1 g.2.2.2.2.1 g.2.2.2.2.2.1 g.2.2.2.2.2.2, f_X4_readIf_G g.1 g.2.1 g.2.2.1 g.2.2.2.1 g.2.2.2.2.1 g.2.2.2.2.2.1 g.2.2.2.2.2.2, f_X4_readOne_G g.1 g.2.1 g.2.2.1 g.2.2.2.1 g.2.2.2.2.1 g.2.2.2.2.2.1 g.2.2.2.2.2.2, f_X4_readProduct_G g.1 g.2.1 g.2.2.1 g.2.2.2.1 g.2.2.2.2.1 g.2.2.2.2.2.1 g.2.2.2.2.2.2, f_X4_readSum_G g.1 g.2.1 g.2.2.1 g.2.2.2.1 g.2.2.2.2.1 g.2.2.2.2.2.1 g.2.2.2.2.2.2))
theorem cg_X4_readAsk {G : jG} : ∀ n : Nat, (∀ (a0 : Int) (a1 : Int) (S : jSt), (0 ≤ (a0)) → (R32 (a1)) → CT G yX4_readAsk cX4_readAsk 3 (some .boolean) (4 + n) ([(2, a0), (0, a1)].map jval) S (((grp_X4_readAsk n).1) a0 a1 S)) ∧ (∀ (a0 : Int) (a1 : Int) (S : jSt), (0 ≤ (a0)) → (R32 (a1)) → CT G yX4_readBoth cX4_readBoth 3 (some .boolean) (4 + n) ([(2, a0), (0, a1)].map jval) S (((grp_X4_readAsk n).2.1) a0 a1 S)) ∧ (∀ (a0 : Int) (a1 : Int) (S : jSt), (0 ≤ (a0)) → (R32 (a1)) → CT G yX4_readEither cX4_readEither 3 (some .boolean) (4 + n) ([(2, a0), (0, a1)].map jval) S (((grp_X4_readAsk n).2.2.1) a0 a1 S)) ∧ (∀ (a0 : Int) (a1 : Int) (S : jSt), (0 ≤ (a0)) → (R32 (a1)) → CT G yX4_readIf cX4_readIf 4 (some .boolean) (4 + n) ([(2, a0), (0, a1)].map jval) S (((grp_X4_readAsk n).2.2.2.1) a0 a1 S)) ∧ (∀ (a0 : Int) (a1 : Int) (S : jSt), (0 ≤ (a0)) → (R32 (a1)) → CT G yX4_readOne cX4_readOne 3 (some .boolean) (4 + n) ([(2, a0), (0, a1)].map jval) S (((grp_X4_readAsk n).2.2.2.2.1) a0 a1 S)) ∧ (∀ (a0 : Int) (a1 : Int) (S : jSt), (0 ≤ (a0)) → (R32 (a1)) → CT G yX4_readProduct cX4_readProduct 4 (some .boolean) (4 + n) ([(2, a0), (0, a1)].map jval) S (((grp_X4_readAsk n).2.2.2.2.2.1) a0 a1 S)) ∧ (∀ (a0 : Int) (a1 : Int) (S : jSt), (0 ≤ (a0)) → (R32 (a1)) → CT G yX4_readSum cX4_readSum 4 (some .boolean) (4 + n) ([(2, a0), (0, a1)].map jval) S (((grp_X4_readAsk n).2.2.2.2.2.2) a0 a1 S))
  | 0 => by
    refine ⟨?_, ?_, ?_, ?_, ?_, ?_, ?_⟩
    all_goals (intros; intro _ _ _ h; cases h)
  | n + 1 => by
    obtain ⟨q_X4_readAsk, q_X4_readBoth, q_X4_readEither, q_X4_readIf, q_X4_readOne, q_X4_readProduct, q_X4_readSum⟩ := cg_X4_readAsk (G := G) n
    refine ⟨?_, ?_, ?_, ?_, ?_, ?_, ?_⟩
    · intro a0 a1 S h0 h1
      exact ct_of [(2, a0), (0, a1)] (by decide) rfl (Nat.le_of_ble_eq_true rfl) (e_X4_readAsk_G (by omega) (dg := 4 + n) (by omega) q_X4_readAsk q_X4_readBoth q_X4_readEither q_X4_readIf q_X4_readOne q_X4_readProduct q_X4_readSum a0 a1 S h0 h1)
    · intro a0 a1 S h0 h1
      exact ct_of [(2, a0), (0, a1)] (by decide) rfl (Nat.le_of_ble_eq_true rfl) (e_X4_readBoth_G (by omega) (dg := 4 + n) (by omega) q_X4_readAsk q_X4_readBoth q_X4_readEither q_X4_readIf q_X4_readOne q_X4_readProduct q_X4_readSum a0 a1 S h0 h1)
    · intro a0 a1 S h0 h1
      exact ct_of [(2, a0), (0, a1)] (by decide) rfl (Nat.le_of_ble_eq_true rfl) (e_X4_readEither_G (by omega) (dg := 4 + n) (by omega) q_X4_readAsk q_X4_readBoth q_X4_readEither q_X4_readIf q_X4_readOne q_X4_readProduct q_X4_readSum a0 a1 S h0 h1)
    · intro a0 a1 S h0 h1
      exact ct_of [(2, a0), (0, a1)] (by decide) rfl (Nat.le_of_ble_eq_true rfl) (e_X4_readIf_G (by omega) (dg := 4 + n) (by omega) q_X4_readAsk q_X4_readBoth q_X4_readEither q_X4_readIf q_X4_readOne q_X4_readProduct q_X4_readSum a0 a1 S h0 h1)
    · intro a0 a1 S h0 h1
      exact ct_of [(2, a0), (0, a1)] (by decide) rfl (Nat.le_of_ble_eq_true rfl) (e_X4_readOne_G (by omega) (dg := 4 + n) (by omega) q_X4_readAsk q_X4_readBoth q_X4_readEither q_X4_readIf q_X4_readOne q_X4_readProduct q_X4_readSum a0 a1 S h0 h1)
    · intro a0 a1 S h0 h1
      exact ct_of [(2, a0), (0, a1)] (by decide) rfl (Nat.le_of_ble_eq_true rfl) (e_X4_readProduct_G (by omega) (dg := 4 + n) (by omega) q_X4_readAsk q_X4_readBoth q_X4_readEither q_X4_readIf q_X4_readOne q_X4_readProduct q_X4_readSum a0 a1 S h0 h1)
    · intro a0 a1 S h0 h1
      exact ct_of [(2, a0), (0, a1)] (by decide) rfl (Nat.le_of_ble_eq_true rfl) (e_X4_readSum_G (by omega) (dg := 4 + n) (by omega) q_X4_readAsk q_X4_readBoth q_X4_readEither q_X4_readIf q_X4_readOne q_X4_readProduct q_X4_readSum a0 a1 S h0 h1)
def f_X4_readAsk : Int → Int → jSt → Option (Int × jSt) := (grp_X4_readAsk 100).1
theorem c_X4_readAsk {G : jG} (a0 : Int) (a1 : Int) (S : jSt) (h0 : 0 ≤ (a0)) (h1 : R32 (a1)) : CT G yX4_readAsk cX4_readAsk 3 (some .boolean) 104 ([(2, a0), (0, a1)].map jval) S (f_X4_readAsk a0 a1 S) := (cg_X4_readAsk (G := G) 100).1 a0 a1 S h0 h1
def f_X4_readBoth : Int → Int → jSt → Option (Int × jSt) := (grp_X4_readAsk 100).2.1
theorem c_X4_readBoth {G : jG} (a0 : Int) (a1 : Int) (S : jSt) (h0 : 0 ≤ (a0)) (h1 : R32 (a1)) : CT G yX4_readBoth cX4_readBoth 3 (some .boolean) 104 ([(2, a0), (0, a1)].map jval) S (f_X4_readBoth a0 a1 S) := (cg_X4_readAsk (G := G) 100).2.1 a0 a1 S h0 h1
def f_X4_readEither : Int → Int → jSt → Option (Int × jSt) := (grp_X4_readAsk 100).2.2.1
theorem c_X4_readEither {G : jG} (a0 : Int) (a1 : Int) (S : jSt) (h0 : 0 ≤ (a0)) (h1 : R32 (a1)) : CT G yX4_readEither cX4_readEither 3 (some .boolean) 104 ([(2, a0), (0, a1)].map jval) S (f_X4_readEither a0 a1 S) := (cg_X4_readAsk (G := G) 100).2.2.1 a0 a1 S h0 h1
def f_X4_readIf : Int → Int → jSt → Option (Int × jSt) := (grp_X4_readAsk 100).2.2.2.1
theorem c_X4_readIf {G : jG} (a0 : Int) (a1 : Int) (S : jSt) (h0 : 0 ≤ (a0)) (h1 : R32 (a1)) : CT G yX4_readIf cX4_readIf 4 (some .boolean) 104 ([(2, a0), (0, a1)].map jval) S (f_X4_readIf a0 a1 S) := (cg_X4_readAsk (G := G) 100).2.2.2.1 a0 a1 S h0 h1
def f_X4_readOne : Int → Int → jSt → Option (Int × jSt) := (grp_X4_readAsk 100).2.2.2.2.1
theorem c_X4_readOne {G : jG} (a0 : Int) (a1 : Int) (S : jSt) (h0 : 0 ≤ (a0)) (h1 : R32 (a1)) : CT G yX4_readOne cX4_readOne 3 (some .boolean) 104 ([(2, a0), (0, a1)].map jval) S (f_X4_readOne a0 a1 S) := (cg_X4_readAsk (G := G) 100).2.2.2.2.1 a0 a1 S h0 h1
def f_X4_readProduct : Int → Int → jSt → Option (Int × jSt) := (grp_X4_readAsk 100).2.2.2.2.2.1
theorem c_X4_readProduct {G : jG} (a0 : Int) (a1 : Int) (S : jSt) (h0 : 0 ≤ (a0)) (h1 : R32 (a1)) : CT G yX4_readProduct cX4_readProduct 4 (some .boolean) 104 ([(2, a0), (0, a1)].map jval) S (f_X4_readProduct a0 a1 S) := (cg_X4_readAsk (G := G) 100).2.2.2.2.2.1 a0 a1 S h0 h1
def f_X4_readSum : Int → Int → jSt → Option (Int × jSt) := (grp_X4_readAsk 100).2.2.2.2.2.2
theorem c_X4_readSum {G : jG} (a0 : Int) (a1 : Int) (S : jSt) (h0 : 0 ≤ (a0)) (h1 : R32 (a1)) : CT G yX4_readSum cX4_readSum 4 (some .boolean) 104 ([(2, a0), (0, a1)].map jval) S (f_X4_readSum a0 a1 S) := (cg_X4_readAsk (G := G) 100).2.2.2.2.2.2 a0 a1 S h0 h1
