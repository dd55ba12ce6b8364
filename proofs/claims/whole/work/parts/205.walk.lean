-- X4_readLaw
def f_X4_readLaw (a0 : Int) (a1 : Int) (S : jSt) : Option (Int × jSt) :=
  fput S a0 4 4 a1 (fun S1 => fgetr S1 a0 4 9 (fun v2 => fget S1 a0 4 6 (fun v3 => fast S1 v2 a1 1 v3 (fun S4 => fcallv S4 a0 4 (f_X4_readSum a0 0 S4) (fun v5 S6 => if v5 = 0 then some (0, S6) else fgetr S6 a0 4 10 (fun v7 => fget S6 a0 4 6 (fun v8 => fast S6 v7 a1 1 v8 (fun S9 => some (1, S9)))))))))
theorem e_X4_readLaw {G : jG} {d : Nat} {S0 : jSt} (hd0 : 105 ≤ d) (a0 : Int) (a1 : Int) (S : jSt) (h0 : 0 ≤ (a0)) (h1 : R32 (a1)) : J G yX4_readLaw cX4_readLaw 2 (some .boolean) d S0 0 [(0, 2, a0), (1, 0, a1)] [] S (f_X4_readLaw a0 a1 S) := by
  unfold f_X4_readLaw
  refine j_aload_n 0 dX4_readLaw_0 rfl rfl ?_
  refine j_iload_n 1 dX4_readLaw_1 rfl rfl ?_
  refine j_puti (ci := 4) (k := 4) (ty0 := tyX4) rfl in_X4 (Nat.le_of_ble_eq_true rfl) rfl tyX4_ok nmX4 rfl rfl (by decide +kernel) h1 fl_X4_101 dX4_readLaw_2 (fun S1 => ?_)
  refine j_aload_n 0 dX4_readLaw_5 rfl rfl ?_
  refine j_getr (ci := 4) (k := 9) rfl in_X4 (Nat.le_of_ble_eq_true rfl) rfl rfl fl_X4_25 dX4_readLaw_6 (fun (v2 : Int) (hv2 : 0 ≤ v2) => ?_)
  refine j_iload_n 1 dX4_readLaw_9 rfl rfl ?_
  refine j_aload_n 0 dX4_readLaw_10 rfl rfl ?_
  refine j_get (ci := 4) (k := 6) (t := 0) rfl in_X4 (Nat.le_of_ble_eq_true rfl) rfl rfl fl_X4_46 dX4_readLaw_11 (fun (v3 : Int) (hv3 : R32 (v3)) => ?_)
  refine j_iastore h1 hv3 dX4_readLaw_14 (fun S4 => ?_)
  refine j_aload_n 0 dX4_readLaw_15 rfl rfl ?_
  refine j_iconst dX4_readLaw_16 ?_
  refine j_callV (ci := 4) (As := [(0, 0)]) (st := []) kc_X4_readSum (c_X4_readSum a0 0 S4 h0 (jZ_R jz0)) rfl lm_X4_104 ki_X4_readSum ke_X4_readSum rfl (Nat.le_of_ble_eq_true rfl) (Nat.le_trans (m := 105) (Nat.le_of_ble_eq_true rfl) hd0) dX4_readLaw_17 (fun (v5 : Int) (S6 : jSt) (hv5 : (v5) = 0 ∨ (v5) = 1) => ?_)
  refine j_if_ne (tgt := 25) (jZ_R hv5) dX4_readLaw_20 rfl (fun _ => ?_) (fun _ => ?_)
  · refine j_aload_n 0 dX4_readLaw_25 rfl rfl ?_
    refine j_getr (ci := 4) (k := 10) rfl in_X4 (Nat.le_of_ble_eq_true rfl) rfl rfl fl_X4_28 dX4_readLaw_26 (fun (v7 : Int) (hv7 : 0 ≤ v7) => ?_)
    refine j_iload_n 1 dX4_readLaw_29 rfl rfl ?_
    refine j_aload_n 0 dX4_readLaw_30 rfl rfl ?_
    refine j_get (ci := 4) (k := 6) (t := 0) rfl in_X4 (Nat.le_of_ble_eq_true rfl) rfl rfl fl_X4_46 dX4_readLaw_31 (fun (v8 : Int) (hv8 : R32 (v8)) => ?_)
    refine j_iastore h1 hv8 dX4_readLaw_34 (fun S9 => ?_)
    refine j_iconst dX4_readLaw_35 ?_
    exact j_zreturn jz1 dX4_readLaw_36
  · refine j_iconst dX4_readLaw_23 ?_
    exact j_zreturn jz0 dX4_readLaw_24
theorem c_X4_readLaw {G : jG} (a0 : Int) (a1 : Int) (S : jSt) (h0 : 0 ≤ (a0)) (h1 : R32 (a1)) : CT G yX4_readLaw cX4_readLaw 2 (some .boolean) 105 ([(2, a0), (0, a1)].map jval) S (f_X4_readLaw a0 a1 S) := ct_of [(2, a0), (0, a1)] (by decide) rfl (Nat.le_of_ble_eq_true rfl) (e_X4_readLaw (Nat.le_refl _) a0 a1 S h0 h1)
-- X4_readClause
def f_X4_readClause_b118 (S : jSt) : Option (Int × jSt) :=
  some (0, S)
theorem p_f_X4_readClause_b118 {G : jG} {d : Nat} {S0 : jSt} (hd0 : 106 ≤ d) : ∀ (S : jSt), J G yX4_readClause cX4_readClause 2 (some .boolean) d S0 118 [] [] S (f_X4_readClause_b118   S) := by
  intro S
  unfold f_X4_readClause_b118
  refine j_iconst dX4_readClause_118 ?_
  exact j_zreturn jz0 dX4_readClause_119
def f_X4_readClause_b109 (x0 : Int) (S : jSt) : Option (Int × jSt) :=
  fcallv S x0 4 (f_X4_readKind x0 43 S) (fun v13 S14 => if v13 = 0 then f_X4_readClause_b118 S14 else fget S14 x0 4 5 (fun v15 => fput S14 x0 4 5 (w32 (v15 + 1)) (fun S16 => some (1, S16))))
theorem p_f_X4_readClause_b109 {G : jG} {d : Nat} {S0 : jSt} (hd0 : 106 ≤ d) : ∀ (x0 : Int) (S : jSt), (0 ≤ (x0)) → J G yX4_readClause cX4_readClause 2 (some .boolean) d S0 109 [(0, 2, x0)] [] S (f_X4_readClause_b109  x0 S) := by
  intro x0 S h0
  unfold f_X4_readClause_b109
  refine j_aload_n 0 dX4_readClause_109 rfl rfl ?_
  refine j_bipush dX4_readClause_110 (by decide) ?_
  refine j_callV (ci := 4) (As := [(0, 43)]) (st := []) kc_X4_readKind (c_X4_readKind x0 43 S h0 (j_r32 43 rfl)) rfl lm_X4_98 ki_X4_readKind ke_X4_readKind rfl (Nat.le_of_ble_eq_true rfl) (Nat.le_trans (m := 106) (Nat.le_of_ble_eq_true rfl) hd0) dX4_readClause_112 (fun (v13 : Int) (S14 : jSt) (hv13 : (v13) = 0 ∨ (v13) = 1) => ?_)
  refine j_if_ne (tgt := 120) (jZ_R hv13) dX4_readClause_115 rfl (fun _ => ?_) (fun _ => ?_)
  · refine j_aload_n 0 dX4_readClause_120 rfl rfl ?_
    refine j_dup dX4_readClause_121 (fun h => nomatch h) ?_
    refine j_get (ci := 4) (k := 5) (t := 0) rfl in_X4 (Nat.le_of_ble_eq_true rfl) rfl rfl fl_X4_43 dX4_readClause_122 (fun (v15 : Int) (hv15 : R32 (v15)) => ?_)
    refine j_iconst dX4_readClause_125 ?_
    refine j_iadd dX4_readClause_126 ?_
    refine j_puti (ci := 4) (k := 5) (ty0 := tyX4) rfl in_X4 (Nat.le_of_ble_eq_true rfl) rfl tyX4_ok nmX4 rfl rfl (by decide +kernel) (w32_R _) fl_X4_43 dX4_readClause_127 (fun S16 => ?_)
    refine j_iconst dX4_readClause_130 ?_
    exact j_zreturn jz1 dX4_readClause_131
  · refine j_sub [] rfl ?_
    exact p_f_X4_readClause_b118 hd0 S14
def f_X4_readClause_b47 (x0 : Int) (x1 : Int) (S : jSt) : Option (Int × jSt) :=
  fget S x0 4 5 (fun v5 => if v5 < 24 then fget S x0 4 3 (fun v6 => fput S x0 4 3 (w32 (v6 + 1)) (fun S7 => fgetr S7 x0 4 7 (fun v8 => fget S7 x0 4 5 (fun v9 => fast S7 v8 (w32 (v9 * 4)) 1 x1 (fun S10 => if 3 < x1 then fcallv S10 x0 4 (f_X4_readDeed x0 x1 S10) (fun v11 S12 => if v11 = 0 then f_X4_readClause_b118 S12 else f_X4_readClause_b109 x0 S12) else fcallv S10 x0 4 (f_X4_readLaw x0 x1 S10) (fun v17 S18 => if v17 = 0 then f_X4_readClause_b118 S18 else f_X4_readClause_b109 x0 S18)))))) else fcallv S x0 4 (f_X4_refuse x0 6 S) (fun v19 S20 => some (v19, S20)))
theorem p_f_X4_readClause_b47 {G : jG} {d : Nat} {S0 : jSt} (hd0 : 106 ≤ d) : ∀ (x0 : Int) (x1 : Int) (S : jSt), (0 ≤ (x0)) → (R32 (x1)) → J G yX4_readClause cX4_readClause 2 (some .boolean) d S0 47 [(0, 2, x0), (1, 0, x1)] [] S (f_X4_readClause_b47  x0 x1 S) := by
  intro x0 x1 S h0 h1
  unfold f_X4_readClause_b47
  refine j_aload_n 0 dX4_readClause_47 rfl rfl ?_
  refine j_get (ci := 4) (k := 5) (t := 0) rfl in_X4 (Nat.le_of_ble_eq_true rfl) rfl rfl fl_X4_43 dX4_readClause_48 (fun (v5 : Int) (hv5 : R32 (v5)) => ?_)
  refine j_bipush dX4_readClause_51 (by decide) ?_
  refine j_icmp_lt (tgt := 63) hv5 (j_r32 24 rfl) dX4_readClause_53 rfl (fun _ => ?_) (fun _ => ?_)
  · refine j_aload_n 0 dX4_readClause_63 rfl rfl ?_
    refine j_dup dX4_readClause_64 (fun h => nomatch h) ?_
    refine j_get (ci := 4) (k := 3) (t := 0) rfl in_X4 (Nat.le_of_ble_eq_true rfl) rfl rfl fl_X4_40 dX4_readClause_65 (fun (v6 : Int) (hv6 : R32 (v6)) => ?_)
    refine j_iconst dX4_readClause_68 ?_
    refine j_iadd dX4_readClause_69 ?_
    refine j_puti (ci := 4) (k := 3) (ty0 := tyX4) rfl in_X4 (Nat.le_of_ble_eq_true rfl) rfl tyX4_ok nmX4 rfl rfl (by decide +kernel) (w32_R _) fl_X4_40 dX4_readClause_70 (fun S7 => ?_)
    refine j_aload_n 0 dX4_readClause_73 rfl rfl ?_
    refine j_getr (ci := 4) (k := 7) rfl in_X4 (Nat.le_of_ble_eq_true rfl) rfl rfl fl_X4_18 dX4_readClause_74 (fun (v8 : Int) (hv8 : 0 ≤ v8) => ?_)
    refine j_aload_n 0 dX4_readClause_77 rfl rfl ?_
    refine j_get (ci := 4) (k := 5) (t := 0) rfl in_X4 (Nat.le_of_ble_eq_true rfl) rfl rfl fl_X4_43 dX4_readClause_78 (fun (v9 : Int) (hv9 : R32 (v9)) => ?_)
    refine j_iconst dX4_readClause_81 ?_
    refine j_imul dX4_readClause_82 ?_
    refine j_iload_n 1 dX4_readClause_83 rfl rfl ?_
    refine j_iastore (w32_R _) h1 dX4_readClause_84 (fun S10 => ?_)
    refine j_iload_n 1 dX4_readClause_85 rfl rfl ?_
    refine j_iconst dX4_readClause_86 ?_
    refine j_icmp_gt (tgt := 101) h1 (j_r32 3 rfl) dX4_readClause_87 rfl (fun _ => ?_) (fun _ => ?_)
    · refine j_aload_n 0 dX4_readClause_101 rfl rfl ?_
      refine j_iload_n 1 dX4_readClause_102 rfl rfl ?_
      refine j_callV (ci := 4) (As := [(0, x1)]) (st := []) kc_X4_readDeed (c_X4_readDeed x0 x1 S10 h0 h1) rfl lm_X4_95 ki_X4_readDeed ke_X4_readDeed rfl (Nat.le_of_ble_eq_true rfl) (Nat.le_trans (m := 106) (Nat.le_of_ble_eq_true rfl) hd0) dX4_readClause_103 (fun (v11 : Int) (S12 : jSt) (hv11 : (v11) = 0 ∨ (v11) = 1) => ?_)
      refine j_if_eq (tgt := 118) (jZ_R hv11) dX4_readClause_106 rfl (fun _ => ?_) (fun _ => ?_)
      · refine j_sub [] rfl ?_
        exact p_f_X4_readClause_b118 hd0 S12
      · refine j_sub [0] rfl ?_
        exact p_f_X4_readClause_b109 hd0 x0 S12 h0
    · refine j_aload_n 0 dX4_readClause_90 rfl rfl ?_
      refine j_iload_n 1 dX4_readClause_91 rfl rfl ?_
      refine j_callV (ci := 4) (As := [(0, x1)]) (st := []) kc_X4_readLaw (c_X4_readLaw x0 x1 S10 h0 h1) rfl lm_X4_92 ki_X4_readLaw ke_X4_readLaw rfl (Nat.le_of_ble_eq_true rfl) (Nat.le_trans (m := 106) (Nat.le_of_ble_eq_true rfl) hd0) dX4_readClause_92 (fun (v17 : Int) (S18 : jSt) (hv17 : (v17) = 0 ∨ (v17) = 1) => ?_)
      refine j_if_eq (tgt := 118) (jZ_R hv17) dX4_readClause_95 rfl (fun _ => ?_) (fun _ => ?_)
      · refine j_sub [] rfl ?_
        exact p_f_X4_readClause_b118 hd0 S18
      · refine j_goto (tgt := 109) dX4_readClause_98 rfl ?_
        refine j_sub [0] rfl ?_
        exact p_f_X4_readClause_b109 hd0 x0 S18 h0
  · refine j_aload_n 0 dX4_readClause_56 rfl rfl ?_
    refine j_bipush dX4_readClause_57 (by decide) ?_
    refine j_callV (ci := 4) (As := [(0, 6)]) (st := []) kc_X4_refuse (c_X4_refuse x0 6 S h0 (j_r32 6 rfl)) rfl lm_X4_84 ki_X4_refuse ke_X4_refuse rfl (Nat.le_of_ble_eq_true rfl) (Nat.le_trans (m := 106) (Nat.le_of_ble_eq_true rfl) hd0) dX4_readClause_59 (fun (v19 : Int) (S20 : jSt) (hv19 : (v19) = 0 ∨ (v19) = 1) => ?_)
    exact j_zreturn hv19 dX4_readClause_62
def f_X4_readClause (a0 : Int) (S : jSt) : Option (Int × jSt) :=
  fcallv S a0 4 (f_X4_kind a0 S) (fun v1 S2 => fcall (f_X11_within v1 1 11 S2) (fun v3 S4 => if v3 = 0 then fcallv S4 a0 4 (f_X4_refuse a0 1 S4) (fun v27 S28 => some (v27, S28)) else if 3 < v1 then f_X4_readClause_b47 a0 v1 S4 else fgetr S4 a0 4 10 (fun v21 => fald S4 v21 v1 1 (fun v22 => fgetr S4 a0 4 9 (fun v23 => fald S4 v23 v1 1 (fun v24 => if v22 ≤ v24 then f_X4_readClause_b47 a0 v1 S4 else fcallv S4 a0 4 (f_X4_refuse a0 4 S4) (fun v25 S26 => some (v25, S26))))))))
theorem e_X4_readClause {G : jG} {d : Nat} {S0 : jSt} (hd0 : 106 ≤ d) (a0 : Int) (S : jSt) (h0 : 0 ≤ (a0)) : J G yX4_readClause cX4_readClause 2 (some .boolean) d S0 0 [(0, 2, a0)] [] S (f_X4_readClause a0 S) := by
  unfold f_X4_readClause
  refine j_aload_n 0 dX4_readClause_0 rfl rfl ?_
  refine j_callV (ci := 4) (As := []) (st := []) kc_X4_kind (c_X4_kind a0 S h0) rfl lm_X4_55 ki_X4_kind ke_X4_kind rfl (Nat.le_of_ble_eq_true rfl) (Nat.le_trans (m := 106) (Nat.le_of_ble_eq_true rfl) hd0) dX4_readClause_1 (fun (v1 : Int) (S2 : jSt) (hv1 : R32 (v1)) => ?_)
  refine j_istore_n (lv' := [(1, 0, v1), (0, 2, a0)]) dX4_readClause_4 rfl (Nat.le_of_ble_eq_true rfl) rfl ?_
  refine j_iload_n 0 dX4_readClause_5 rfl rfl ?_
  refine j_iconst dX4_readClause_6 ?_
  refine j_bipush dX4_readClause_7 (by decide) ?_
  refine j_callSN (As := [(0, v1), (0, 1), (0, 11)]) (st := []) (host := RX11) kc_X11_within (c_X11_within v1 1 11 S2 hv1 (jZ_R jz1) (j_r32 11 rfl)) (by decide +kernel) ks_X11_within rfl (Nat.le_of_ble_eq_true rfl) (Nat.le_trans (m := 106) (Nat.le_of_ble_eq_true rfl) hd0) dX4_readClause_9 (fun (v3 : Int) (S4 : jSt) (hv3 : (v3) = 0 ∨ (v3) = 1) => ?_)
  refine j_if_ne (tgt := 21) (jZ_R hv3) dX4_readClause_12 rfl (fun _ => ?_) (fun _ => ?_)
  · refine j_iload_n 0 dX4_readClause_21 rfl rfl ?_
    refine j_iconst dX4_readClause_22 ?_
    refine j_icmp_gt (tgt := 47) hv1 (j_r32 3 rfl) dX4_readClause_23 rfl (fun _ => ?_) (fun _ => ?_)
    · refine j_sub [1, 0] rfl ?_
      exact p_f_X4_readClause_b47 hd0 a0 v1 S4 h0 hv1
    · refine j_aload_n 1 dX4_readClause_26 rfl rfl ?_
      refine j_getr (ci := 4) (k := 10) rfl in_X4 (Nat.le_of_ble_eq_true rfl) rfl rfl fl_X4_28 dX4_readClause_27 (fun (v21 : Int) (hv21 : 0 ≤ v21) => ?_)
      refine j_iload_n 0 dX4_readClause_30 rfl rfl ?_
      refine j_iaload hv1 dX4_readClause_31 (fun (v22 : Int) (hv22 : R32 (v22)) => ?_)
      refine j_aload_n 1 dX4_readClause_32 rfl rfl ?_
      refine j_getr (ci := 4) (k := 9) rfl in_X4 (Nat.le_of_ble_eq_true rfl) rfl rfl fl_X4_25 dX4_readClause_33 (fun (v23 : Int) (hv23 : 0 ≤ v23) => ?_)
      refine j_iload_n 0 dX4_readClause_36 rfl rfl ?_
      refine j_iaload hv1 dX4_readClause_37 (fun (v24 : Int) (hv24 : R32 (v24)) => ?_)
      refine j_icmp_le (tgt := 47) hv22 hv24 dX4_readClause_38 rfl (fun _ => ?_) (fun _ => ?_)
      · refine j_sub [1, 0] rfl ?_
        exact p_f_X4_readClause_b47 hd0 a0 v1 S4 h0 hv1
      · refine j_aload_n 1 dX4_readClause_41 rfl rfl ?_
        refine j_iconst dX4_readClause_42 ?_
        refine j_callV (ci := 4) (As := [(0, 4)]) (st := []) kc_X4_refuse (c_X4_refuse a0 4 S4 h0 (j_r32 4 rfl)) rfl lm_X4_84 ki_X4_refuse ke_X4_refuse rfl (Nat.le_of_ble_eq_true rfl) (Nat.le_trans (m := 106) (Nat.le_of_ble_eq_true rfl) hd0) dX4_readClause_43 (fun (v25 : Int) (S26 : jSt) (hv25 : (v25) = 0 ∨ (v25) = 1) => ?_)
        exact j_zreturn hv25 dX4_readClause_46
  · refine j_aload_n 1 dX4_readClause_15 rfl rfl ?_
    refine j_iconst dX4_readClause_16 ?_
    refine j_callV (ci := 4) (As := [(0, 1)]) (st := []) kc_X4_refuse (c_X4_refuse a0 1 S4 h0 (jZ_R jz1)) rfl lm_X4_84 ki_X4_refuse ke_X4_refuse rfl (Nat.le_of_ble_eq_true rfl) (Nat.le_trans (m := 106) (Nat.le_of_ble_eq_true rfl) hd0) dX4_readClause_17 (fun (v27 : Int) (S28 : jSt) (hv27 : (v27) = 0 ∨ (v27) = 1) => ?_)
    exact j_zreturn hv27 dX4_readClause_20
theorem c_X4_readClause {G : jG} (a0 : Int) (S : jSt) (h0 : 0 ≤ (a0)) : CT G yX4_readClause cX4_readClause 2 (some .boolean) 106 ([(2, a0)].map jval) S (f_X4_readClause a0 S) := ct_of [(2, a0)] (by decide) rfl (Nat.le_of_ble_eq_true rfl) (e_X4_readClause (Nat.le_refl _) a0 S h0)
-- X9_isDigit
def f_X9_isDigit (a0 : Int) (S : jSt) : Option (Int × jSt) :=
  fcall (f_X11_within a0 48 57 S) (fun v1 S2 => some (v1, S2))
theorem e_X9_isDigit {G : jG} {d : Nat} {S0 : jSt} (hd0 : 2 ≤ d) (a0 : Int) (S : jSt) (h0 : R32 (a0)) : J G yX9_isDigit cX9_isDigit 1 (some .boolean) d S0 0 [(0, 0, a0)] [] S (f_X9_isDigit a0 S) := by
  unfold f_X9_isDigit
  refine j_iload_n 0 dX9_isDigit_0 rfl rfl ?_
  refine j_bipush dX9_isDigit_1 (by decide) ?_
  refine j_bipush dX9_isDigit_3 (by decide) ?_
  refine j_callSN (As := [(0, a0), (0, 48), (0, 57)]) (st := []) (host := RX11) kc_X11_within (c_X11_within a0 48 57 S h0 (j_r32 48 rfl) (j_r32 57 rfl)) (by decide +kernel) ks_X11_within rfl (Nat.le_of_ble_eq_true rfl) (Nat.le_trans (m := 2) (Nat.le_of_ble_eq_true rfl) hd0) dX9_isDigit_5 (fun (v1 : Int) (S2 : jSt) (hv1 : (v1) = 0 ∨ (v1) = 1) => ?_)
  exact j_zreturn hv1 dX9_isDigit_8
theorem c_X9_isDigit {G : jG} (a0 : Int) (S : jSt) (h0 : R32 (a0)) : CT G yX9_isDigit cX9_isDigit 1 (some .boolean) 2 ([(0, a0)].map jval) S (f_X9_isDigit a0 S) := ct_of [(0, a0)] (by decide) rfl (Nat.le_of_ble_eq_true rfl) (e_X9_isDigit (Nat.le_refl _) a0 S h0)
-- X9_isLetter
def f_X9_isLetter_b27 (x0 : Int) (S : jSt) : Option (Int × jSt) :=
  some (x0, S)
theorem p_f_X9_isLetter_b27 {G : jG} {d : Nat} {S0 : jSt} (hd0 : 2 ≤ d) : ∀ (x0 : Int) (S : jSt), ((x0) = 0 ∨ (x0) = 1) → J G yX9_isLetter cX9_isLetter 1 (some .boolean) d S0 27 [] [(0, x0)] S (f_X9_isLetter_b27  x0 S) := by
  intro x0 S h0
  unfold f_X9_isLetter_b27
  exact j_zreturn h0 dX9_isLetter_27
def f_X9_isLetter_b22 (S : jSt) : Option (Int × jSt) :=
  f_X9_isLetter_b27 1 S
theorem p_f_X9_isLetter_b22 {G : jG} {d : Nat} {S0 : jSt} (hd0 : 2 ≤ d) : ∀ (S : jSt), J G yX9_isLetter cX9_isLetter 1 (some .boolean) d S0 22 [] [] S (f_X9_isLetter_b22   S) := by
  intro S
  unfold f_X9_isLetter_b22
  refine j_iconst dX9_isLetter_22 ?_
  refine j_goto (tgt := 27) dX9_isLetter_23 rfl ?_
  exact p_f_X9_isLetter_b27 hd0 1 S jz1
def f_X9_isLetter (a0 : Int) (S : jSt) : Option (Int × jSt) :=
  fcall (f_X11_within a0 97 122 S) (fun v1 S2 => if v1 = 0 then fcall (f_X11_within a0 65 90 S2) (fun v3 S4 => if v3 = 0 then f_X9_isLetter_b27 0 S4 else f_X9_isLetter_b22 S4) else f_X9_isLetter_b22 S2)
theorem e_X9_isLetter {G : jG} {d : Nat} {S0 : jSt} (hd0 : 2 ≤ d) (a0 : Int) (S : jSt) (h0 : R32 (a0)) : J G yX9_isLetter cX9_isLetter 1 (some .boolean) d S0 0 [(0, 0, a0)] [] S (f_X9_isLetter a0 S) := by
  unfold f_X9_isLetter
  refine j_iload_n 0 dX9_isLetter_0 rfl rfl ?_
  refine j_bipush dX9_isLetter_1 (by decide) ?_
  refine j_bipush dX9_isLetter_3 (by decide) ?_
  refine j_callSN (As := [(0, a0), (0, 97), (0, 122)]) (st := []) (host := RX11) kc_X11_within (c_X11_within a0 97 122 S h0 (j_r32 97 rfl) (j_r32 122 rfl)) (by decide +kernel) ks_X11_within rfl (Nat.le_of_ble_eq_true rfl) (Nat.le_trans (m := 2) (Nat.le_of_ble_eq_true rfl) hd0) dX9_isLetter_5 (fun (v1 : Int) (S2 : jSt) (hv1 : (v1) = 0 ∨ (v1) = 1) => ?_)
  refine j_if_ne (tgt := 22) (jZ_R hv1) dX9_isLetter_8 rfl (fun _ => ?_) (fun _ => ?_)
  · refine j_sub [] rfl ?_
    exact p_f_X9_isLetter_b22 hd0 S2
  · refine j_iload_n 0 dX9_isLetter_11 rfl rfl ?_
    refine j_bipush dX9_isLetter_12 (by decide) ?_
    refine j_bipush dX9_isLetter_14 (by decide) ?_
    refine j_callSN (As := [(0, a0), (0, 65), (0, 90)]) (st := []) (host := RX11) kc_X11_within (c_X11_within a0 65 90 S2 h0 (j_r32 65 rfl) (j_r32 90 rfl)) (by decide +kernel) ks_X11_within rfl (Nat.le_of_ble_eq_true rfl) (Nat.le_trans (m := 2) (Nat.le_of_ble_eq_true rfl) hd0) dX9_isLetter_16 (fun (v3 : Int) (S4 : jSt) (hv3 : (v3) = 0 ∨ (v3) = 1) => ?_)
    refine j_if_eq (tgt := 26) (jZ_R hv3) dX9_isLetter_19 rfl (fun _ => ?_) (fun _ => ?_)
    · refine j_iconst dX9_isLetter_26 ?_
      refine j_sub [] rfl ?_
      exact p_f_X9_isLetter_b27 hd0 0 S4 jz0
    · refine j_sub [] rfl ?_
      exact p_f_X9_isLetter_b22 hd0 S4
theorem c_X9_isLetter {G : jG} (a0 : Int) (S : jSt) (h0 : R32 (a0)) : CT G yX9_isLetter cX9_isLetter 1 (some .boolean) 2 ([(0, a0)].map jval) S (f_X9_isLetter a0 S) := ct_of [(0, a0)] (by decide) rfl (Nat.le_of_ble_eq_true rfl) (e_X9_isLetter (Nat.le_refl _) a0 S h0)
-- X9_lastOf
def f_X9_lastOf_b134 (x0 : Int) (S : jSt) : Option (Int × jSt) :=
  some (x0, S)
theorem p_f_X9_lastOf_b134 {G : jG} {d : Nat} {S0 : jSt} (hd0 : 3 ≤ d) : ∀ (x0 : Int) (S : jSt), (R32 (x0)) → J G yX9_lastOf cX9_lastOf 3 (some .int) d S0 134 [(2, 0, x0)] [] S (f_X9_lastOf_b134  x0 S) := by
  intro x0 S h0
  unfold f_X9_lastOf_b134
  refine j_iload_n 0 dX9_lastOf_134 rfl rfl ?_
  exact j_ireturn h0 dX9_lastOf_135
def f_X9_lastOf_b108 (x0 : Int) (x1 : Int) (x2 : Int) (S : jSt) : Option (Int × jSt) :=
  fget S x0 9 0 (fun v11 => if v11 ≤ (w32 (x1 + 1)) then f_X9_lastOf_b134 x2 S else fgetr S x0 9 2 (fun v12 => fald S v12 (w32 (x1 + 1)) 1 (fun v13 => if v13 = 61 then flet (w32 (x2 + 1)) (fun v14 => f_X9_lastOf_b134 v14 S) else f_X9_lastOf_b134 x2 S)))
theorem p_f_X9_lastOf_b108 {G : jG} {d : Nat} {S0 : jSt} (hd0 : 3 ≤ d) : ∀ (x0 : Int) (x1 : Int) (x2 : Int) (S : jSt), (0 ≤ (x0)) → (R32 (x1)) → (R32 (x2)) → J G yX9_lastOf cX9_lastOf 3 (some .int) d S0 108 [(0, 2, x0), (1, 0, x1), (2, 0, x2)] [] S (f_X9_lastOf_b108  x0 x1 x2 S) := by
  intro x0 x1 x2 S h0 h1 h2
  unfold f_X9_lastOf_b108
  refine j_iload_n 1 dX9_lastOf_108 rfl rfl ?_
  refine j_iconst dX9_lastOf_109 ?_
  refine j_iadd dX9_lastOf_110 ?_
  refine j_aload_n 0 dX9_lastOf_111 rfl rfl ?_
  refine j_get (ci := 9) (k := 0) (t := 0) rfl in_X9 (Nat.le_of_ble_eq_true rfl) rfl rfl fl_X9_24 dX9_lastOf_112 (fun (v11 : Int) (hv11 : R32 (v11)) => ?_)
  refine j_icmp_ge (tgt := 134) (w32_R _) hv11 dX9_lastOf_115 rfl (fun _ => ?_) (fun _ => ?_)
  · refine j_sub [2] rfl ?_
    exact p_f_X9_lastOf_b134 hd0 x2 S h2
  · refine j_aload_n 0 dX9_lastOf_118 rfl rfl ?_
    refine j_getr (ci := 9) (k := 2) rfl in_X9 (Nat.le_of_ble_eq_true rfl) rfl rfl fl_X9_9 dX9_lastOf_119 (fun (v12 : Int) (hv12 : 0 ≤ v12) => ?_)
    refine j_iload_n 1 dX9_lastOf_122 rfl rfl ?_
    refine j_iconst dX9_lastOf_123 ?_
    refine j_iadd dX9_lastOf_124 ?_
    refine j_iaload (w32_R _) dX9_lastOf_125 (fun (v13 : Int) (hv13 : R32 (v13)) => ?_)
    refine j_bipush dX9_lastOf_126 (by decide) ?_
    refine j_icmp_ne (tgt := 134) hv13 (j_r32 61 rfl) dX9_lastOf_128 rfl (fun _ => ?_) (fun _ => ?_)
    · refine j_sub [2] rfl ?_
      exact p_f_X9_lastOf_b134 hd0 x2 S h2
    · refine j_iincL (q := 2) dX9_lastOf_131 rfl (Nat.le_of_ble_eq_true rfl) (fun v14 hv14 => ?_)
      refine j_lv (lv' := [(2, 0, v14), (0, 2, x0), (1, 0, x1)]) rfl ?_
      refine j_sub [0] rfl ?_
      exact p_f_X9_lastOf_b134 hd0 v14 S hv14
def f_X9_lastOf_b56B (r56 : Int → Int → jSt → Option (Int × jSt)) (x0 : Int) (x1 : Int) (S : jSt) : Option (Int × jSt) :=
  fget S x0 9 0 (fun v17 => if v17 ≤ (w32 (x1 + 1)) then f_X9_lastOf_b134 x1 S else fgetr S x0 9 2 (fun v18 => fald S v18 (w32 (x1 + 1)) 1 (fun v19 => fcall (f_X9_isDigit v19 S) (fun v20 S21 => if v20 = 0 then f_X9_lastOf_b134 x1 S21 else flet (w32 (x1 + 1)) (fun v22 => r56 x0 v22 S21)))))
theorem p_f_X9_lastOf_b56B {G : jG} {d : Nat} {S0 : jSt} (hd0 : 3 ≤ d) {r56 : Int → Int → jSt → Option (Int × jSt)} (k56 : ∀ (x0 : Int) (x1 : Int) (S : jSt), (0 ≤ (x0)) → (R32 (x1)) → J G yX9_lastOf cX9_lastOf 3 (some .int) d S0 56 [(0, 2, x0), (2, 0, x1)] [] S (r56 x0 x1 S)) : ∀ (x0 : Int) (x1 : Int) (S : jSt), (0 ≤ (x0)) → (R32 (x1)) → J G yX9_lastOf cX9_lastOf 3 (some .int) d S0 56 [(0, 2, x0), (2, 0, x1)] [] S (f_X9_lastOf_b56B r56 x0 x1 S) := by
  intro x0 x1 S h0 h1
  unfold f_X9_lastOf_b56B
  refine j_iload_n 1 dX9_lastOf_56 rfl rfl ?_
  refine j_iconst dX9_lastOf_57 ?_
  refine j_iadd dX9_lastOf_58 ?_
  refine j_aload_n 0 dX9_lastOf_59 rfl rfl ?_
  refine j_get (ci := 9) (k := 0) (t := 0) rfl in_X9 (Nat.le_of_ble_eq_true rfl) rfl rfl fl_X9_24 dX9_lastOf_60 (fun (v17 : Int) (hv17 : R32 (v17)) => ?_)
  refine j_icmp_ge (tgt := 134) (w32_R _) hv17 dX9_lastOf_63 rfl (fun _ => ?_) (fun _ => ?_)
  · refine j_sub [1] rfl ?_
    exact p_f_X9_lastOf_b134 hd0 x1 S h1
  · refine j_aload_n 0 dX9_lastOf_66 rfl rfl ?_
    refine j_getr (ci := 9) (k := 2) rfl in_X9 (Nat.le_of_ble_eq_true rfl) rfl rfl fl_X9_9 dX9_lastOf_67 (fun (v18 : Int) (hv18 : 0 ≤ v18) => ?_)
    refine j_iload_n 1 dX9_lastOf_70 rfl rfl ?_
    refine j_iconst dX9_lastOf_71 ?_
    refine j_iadd dX9_lastOf_72 ?_
    refine j_iaload (w32_R _) dX9_lastOf_73 (fun (v19 : Int) (hv19 : R32 (v19)) => ?_)
    refine j_callS (As := [(0, v19)]) (st := []) kc_X9_isDigit (c_X9_isDigit v19 S hv19) lm_X9_43 ks_X9_isDigit rfl (Nat.le_of_ble_eq_true rfl) (Nat.le_trans (m := 3) (Nat.le_of_ble_eq_true rfl) hd0) dX9_lastOf_74 (fun (v20 : Int) (S21 : jSt) (hv20 : (v20) = 0 ∨ (v20) = 1) => ?_)
    refine j_if_eq (tgt := 134) (jZ_R hv20) dX9_lastOf_77 rfl (fun _ => ?_) (fun _ => ?_)
    · refine j_sub [1] rfl ?_
      exact p_f_X9_lastOf_b134 hd0 x1 S21 h1
    · refine j_iincL (q := 1) dX9_lastOf_80 rfl (Nat.le_of_ble_eq_true rfl) (fun v22 hv22 => ?_)
      refine j_lv (lv' := [(2, 0, v22), (0, 2, x0)]) rfl ?_
      refine j_goto (tgt := 56) dX9_lastOf_83 rfl ?_
      refine j_sub [1, 0] rfl ?_
      exact k56 x0 v22 S21 h0 hv22
def f_X9_lastOf_b56 : Int → Int → jSt → Option (Int × jSt) := jrep (β := Int → Int → jSt → Option (Int × jSt)) (fun _ _ _ => none) (fun r => f_X9_lastOf_b56B r) jN
theorem p_f_X9_lastOf_b56 {G : jG} {d : Nat} {S0 : jSt} (hd0 : 3 ≤ d) : ∀ (x0 : Int) (x1 : Int) (S : jSt), (0 ≤ (x0)) → (R32 (x1)) → J G yX9_lastOf cX9_lastOf 3 (some .int) d S0 56 [(0, 2, x0), (2, 0, x1)] [] S (f_X9_lastOf_b56  x0 x1 S) :=
  jrep_ind (P := fun (r : Int → Int → jSt → Option (Int × jSt)) => ∀ (x0 : Int) (x1 : Int) (S : jSt), (0 ≤ (x0)) → (R32 (x1)) → J G yX9_lastOf cX9_lastOf 3 (some .int) d S0 56 [(0, 2, x0), (2, 0, x1)] [] S (r x0 x1 S)) (by intros; exact j_none) (fun r k => p_f_X9_lastOf_b56B hd0 k) jN
def f_X9_lastOf_b14B (r14 : Int → Int → jSt → Option (Int × jSt)) (x0 : Int) (x1 : Int) (S : jSt) : Option (Int × jSt) :=
  fget S x0 9 0 (fun v23 => if v23 ≤ (w32 (x1 + 1)) then f_X9_lastOf_b134 x1 S else fgetr S x0 9 2 (fun v24 => fald S v24 (w32 (x1 + 1)) 1 (fun v25 => fcall (f_X9_isLetter v25 S) (fun v26 S27 => if v26 = 0 then f_X9_lastOf_b134 x1 S27 else flet (w32 (x1 + 1)) (fun v28 => r14 x0 v28 S27)))))
theorem p_f_X9_lastOf_b14B {G : jG} {d : Nat} {S0 : jSt} (hd0 : 3 ≤ d) {r14 : Int → Int → jSt → Option (Int × jSt)} (k14 : ∀ (x0 : Int) (x1 : Int) (S : jSt), (0 ≤ (x0)) → (R32 (x1)) → J G yX9_lastOf cX9_lastOf 3 (some .int) d S0 14 [(0, 2, x0), (2, 0, x1)] [] S (r14 x0 x1 S)) : ∀ (x0 : Int) (x1 : Int) (S : jSt), (0 ≤ (x0)) → (R32 (x1)) → J G yX9_lastOf cX9_lastOf 3 (some .int) d S0 14 [(0, 2, x0), (2, 0, x1)] [] S (f_X9_lastOf_b14B r14 x0 x1 S) := by
  intro x0 x1 S h0 h1
  unfold f_X9_lastOf_b14B
  refine j_iload_n 1 dX9_lastOf_14 rfl rfl ?_
  refine j_iconst dX9_lastOf_15 ?_
  refine j_iadd dX9_lastOf_16 ?_
  refine j_aload_n 0 dX9_lastOf_17 rfl rfl ?_
  refine j_get (ci := 9) (k := 0) (t := 0) rfl in_X9 (Nat.le_of_ble_eq_true rfl) rfl rfl fl_X9_24 dX9_lastOf_18 (fun (v23 : Int) (hv23 : R32 (v23)) => ?_)
  refine j_icmp_ge (tgt := 134) (w32_R _) hv23 dX9_lastOf_21 rfl (fun _ => ?_) (fun _ => ?_)
  · refine j_sub [1] rfl ?_
    exact p_f_X9_lastOf_b134 hd0 x1 S h1
  · refine j_aload_n 0 dX9_lastOf_24 rfl rfl ?_
    refine j_getr (ci := 9) (k := 2) rfl in_X9 (Nat.le_of_ble_eq_true rfl) rfl rfl fl_X9_9 dX9_lastOf_25 (fun (v24 : Int) (hv24 : 0 ≤ v24) => ?_)
    refine j_iload_n 1 dX9_lastOf_28 rfl rfl ?_
    refine j_iconst dX9_lastOf_29 ?_
    refine j_iadd dX9_lastOf_30 ?_
    refine j_iaload (w32_R _) dX9_lastOf_31 (fun (v25 : Int) (hv25 : R32 (v25)) => ?_)
    refine j_callS (As := [(0, v25)]) (st := []) kc_X9_isLetter (c_X9_isLetter v25 S hv25) lm_X9_35 ks_X9_isLetter rfl (Nat.le_of_ble_eq_true rfl) (Nat.le_trans (m := 3) (Nat.le_of_ble_eq_true rfl) hd0) dX9_lastOf_32 (fun (v26 : Int) (S27 : jSt) (hv26 : (v26) = 0 ∨ (v26) = 1) => ?_)
    refine j_if_eq (tgt := 134) (jZ_R hv26) dX9_lastOf_35 rfl (fun _ => ?_) (fun _ => ?_)
    · refine j_sub [1] rfl ?_
      exact p_f_X9_lastOf_b134 hd0 x1 S27 h1
    · refine j_iincL (q := 1) dX9_lastOf_38 rfl (Nat.le_of_ble_eq_true rfl) (fun v28 hv28 => ?_)
      refine j_lv (lv' := [(2, 0, v28), (0, 2, x0)]) rfl ?_
      refine j_goto (tgt := 14) dX9_lastOf_41 rfl ?_
      refine j_sub [1, 0] rfl ?_
      exact k14 x0 v28 S27 h0 hv28
def f_X9_lastOf_b14 : Int → Int → jSt → Option (Int × jSt) := jrep (β := Int → Int → jSt → Option (Int × jSt)) (fun _ _ _ => none) (fun r => f_X9_lastOf_b14B r) jN
theorem p_f_X9_lastOf_b14 {G : jG} {d : Nat} {S0 : jSt} (hd0 : 3 ≤ d) : ∀ (x0 : Int) (x1 : Int) (S : jSt), (0 ≤ (x0)) → (R32 (x1)) → J G yX9_lastOf cX9_lastOf 3 (some .int) d S0 14 [(0, 2, x0), (2, 0, x1)] [] S (f_X9_lastOf_b14  x0 x1 S) :=
  jrep_ind (P := fun (r : Int → Int → jSt → Option (Int × jSt)) => ∀ (x0 : Int) (x1 : Int) (S : jSt), (0 ≤ (x0)) → (R32 (x1)) → J G yX9_lastOf cX9_lastOf 3 (some .int) d S0 14 [(0, 2, x0), (2, 0, x1)] [] S (r x0 x1 S)) (by intros; exact j_none) (fun r k => p_f_X9_lastOf_b14B hd0 k) jN
def f_X9_lastOf (a0 : Int) (a1 : Int) (S : jSt) : Option (Int × jSt) :=
  fgetr S a0 9 2 (fun v1 => fald S v1 a1 1 (fun v2 => fcall (f_X9_isLetter v2 S) (fun v3 S4 => if v3 = 0 then fgetr S4 a0 9 2 (fun v5 => fald S4 v5 a1 1 (fun v6 => fcall (f_X9_isDigit v6 S4) (fun v7 S8 => if v7 = 0 then fgetr S8 a0 9 2 (fun v9 => fald S8 v9 a1 1 (fun v10 => if v10 = 60 then f_X9_lastOf_b108 a0 a1 a1 S8 else fgetr S8 a0 9 2 (fun v15 => fald S8 v15 a1 1 (fun v16 => if v16 = 62 then f_X9_lastOf_b108 a0 a1 a1 S8 else f_X9_lastOf_b134 a1 S8)))) else f_X9_lastOf_b56 a0 a1 S8))) else f_X9_lastOf_b14 a0 a1 S4)))
theorem e_X9_lastOf {G : jG} {d : Nat} {S0 : jSt} (hd0 : 3 ≤ d) (a0 : Int) (a1 : Int) (S : jSt) (h0 : 0 ≤ (a0)) (h1 : R32 (a1)) : J G yX9_lastOf cX9_lastOf 3 (some .int) d S0 0 [(0, 2, a0), (1, 0, a1)] [] S (f_X9_lastOf a0 a1 S) := by
  unfold f_X9_lastOf
  refine j_iload_n 1 dX9_lastOf_0 rfl rfl ?_
  refine j_istore_n (lv' := [(2, 0, a1), (0, 2, a0), (1, 0, a1)]) dX9_lastOf_1 rfl (Nat.le_of_ble_eq_true rfl) rfl ?_
  refine j_aload_n 1 dX9_lastOf_2 rfl rfl ?_
  refine j_getr (ci := 9) (k := 2) rfl in_X9 (Nat.le_of_ble_eq_true rfl) rfl rfl fl_X9_9 dX9_lastOf_3 (fun (v1 : Int) (hv1 : 0 ≤ v1) => ?_)
  refine j_iload_n 2 dX9_lastOf_6 rfl rfl ?_
  refine j_iaload h1 dX9_lastOf_7 (fun (v2 : Int) (hv2 : R32 (v2)) => ?_)
  refine j_callS (As := [(0, v2)]) (st := []) kc_X9_isLetter (c_X9_isLetter v2 S hv2) lm_X9_35 ks_X9_isLetter rfl (Nat.le_of_ble_eq_true rfl) (Nat.le_trans (m := 3) (Nat.le_of_ble_eq_true rfl) hd0) dX9_lastOf_8 (fun (v3 : Int) (S4 : jSt) (hv3 : (v3) = 0 ∨ (v3) = 1) => ?_)
  refine j_if_eq (tgt := 44) (jZ_R hv3) dX9_lastOf_11 rfl (fun _ => ?_) (fun _ => ?_)
  · refine j_aload_n 1 dX9_lastOf_44 rfl rfl ?_
    refine j_getr (ci := 9) (k := 2) rfl in_X9 (Nat.le_of_ble_eq_true rfl) rfl rfl fl_X9_9 dX9_lastOf_45 (fun (v5 : Int) (hv5 : 0 ≤ v5) => ?_)
    refine j_iload_n 2 dX9_lastOf_48 rfl rfl ?_
    refine j_iaload h1 dX9_lastOf_49 (fun (v6 : Int) (hv6 : R32 (v6)) => ?_)
    refine j_callS (As := [(0, v6)]) (st := []) kc_X9_isDigit (c_X9_isDigit v6 S4 hv6) lm_X9_43 ks_X9_isDigit rfl (Nat.le_of_ble_eq_true rfl) (Nat.le_trans (m := 3) (Nat.le_of_ble_eq_true rfl) hd0) dX9_lastOf_50 (fun (v7 : Int) (S8 : jSt) (hv7 : (v7) = 0 ∨ (v7) = 1) => ?_)
    refine j_if_eq (tgt := 86) (jZ_R hv7) dX9_lastOf_53 rfl (fun _ => ?_) (fun _ => ?_)
    · refine j_aload_n 1 dX9_lastOf_86 rfl rfl ?_
      refine j_getr (ci := 9) (k := 2) rfl in_X9 (Nat.le_of_ble_eq_true rfl) rfl rfl fl_X9_9 dX9_lastOf_87 (fun (v9 : Int) (hv9 : 0 ≤ v9) => ?_)
      refine j_iload_n 2 dX9_lastOf_90 rfl rfl ?_
      refine j_iaload h1 dX9_lastOf_91 (fun (v10 : Int) (hv10 : R32 (v10)) => ?_)
      refine j_bipush dX9_lastOf_92 (by decide) ?_
      refine j_icmp_eq (tgt := 108) hv10 (j_r32 60 rfl) dX9_lastOf_94 rfl (fun _ => ?_) (fun _ => ?_)
      · refine j_sub [1, 2, 0] rfl ?_
        exact p_f_X9_lastOf_b108 hd0 a0 a1 a1 S8 h0 h1 h1
      · refine j_aload_n 1 dX9_lastOf_97 rfl rfl ?_
        refine j_getr (ci := 9) (k := 2) rfl in_X9 (Nat.le_of_ble_eq_true rfl) rfl rfl fl_X9_9 dX9_lastOf_98 (fun (v15 : Int) (hv15 : 0 ≤ v15) => ?_)
        refine j_iload_n 2 dX9_lastOf_101 rfl rfl ?_
        refine j_iaload h1 dX9_lastOf_102 (fun (v16 : Int) (hv16 : R32 (v16)) => ?_)
        refine j_bipush dX9_lastOf_103 (by decide) ?_
        refine j_icmp_ne (tgt := 134) hv16 (j_r32 62 rfl) dX9_lastOf_105 rfl (fun _ => ?_) (fun _ => ?_)
        · refine j_sub [0] rfl ?_
          exact p_f_X9_lastOf_b134 hd0 a1 S8 h1
        · refine j_sub [1, 2, 0] rfl ?_
          exact p_f_X9_lastOf_b108 hd0 a0 a1 a1 S8 h0 h1 h1
    · refine j_sub [1, 0] rfl ?_
      exact p_f_X9_lastOf_b56 hd0 a0 a1 S8 h0 h1
  · refine j_sub [1, 0] rfl ?_
    exact p_f_X9_lastOf_b14 hd0 a0 a1 S4 h0 h1
theorem c_X9_lastOf {G : jG} (a0 : Int) (a1 : Int) (S : jSt) (h0 : 0 ≤ (a0)) (h1 : R32 (a1)) : CT G yX9_lastOf cX9_lastOf 3 (some .int) 3 ([(2, a0), (0, a1)].map jval) S (f_X9_lastOf a0 a1 S) := ct_of [(2, a0), (0, a1)] (by decide) rfl (Nat.le_of_ble_eq_true rfl) (e_X9_lastOf (Nat.le_refl _) a0 a1 S h0 h1)
-- X9_numberIn
def f_X9_numberIn_b5B (r5 : Int → Int → Int → Int → jSt → Option (Int × jSt)) (x0 : Int) (x1 : Int) (x2 : Int) (x3 : Int) (S : jSt) : Option (Int × jSt) :=
  if x1 ≤ x3 then some (x2, S) else fgetr S x0 9 2 (fun v1 => fald S v1 x3 1 (fun v2 => flet (imin 10000 (w32 ((w32 ((w32 (x2 * 10)) + v2)) - 48))) (fun v3 => flet (w32 (x3 + 1)) (fun v4 => r5 x0 x1 v3 v4 S))))
theorem p_f_X9_numberIn_b5B {G : jG} {d : Nat} {S0 : jSt} (hd0 : 1 ≤ d) {r5 : Int → Int → Int → Int → jSt → Option (Int × jSt)} (k5 : ∀ (x0 : Int) (x1 : Int) (x2 : Int) (x3 : Int) (S : jSt), (0 ≤ (x0)) → (R32 (x1)) → (R32 (x2)) → (R32 (x3)) → J G yX9_numberIn cX9_numberIn 5 (some .int) d S0 5 [(0, 2, x0), (2, 0, x1), (3, 0, x2), (4, 0, x3)] [] S (r5 x0 x1 x2 x3 S)) : ∀ (x0 : Int) (x1 : Int) (x2 : Int) (x3 : Int) (S : jSt), (0 ≤ (x0)) → (R32 (x1)) → (R32 (x2)) → (R32 (x3)) → J G yX9_numberIn cX9_numberIn 5 (some .int) d S0 5 [(0, 2, x0), (2, 0, x1), (3, 0, x2), (4, 0, x3)] [] S (f_X9_numberIn_b5B r5 x0 x1 x2 x3 S) := by
  intro x0 x1 x2 x3 S h0 h1 h2 h3
  unfold f_X9_numberIn_b5B
  refine j_iload 3 dX9_numberIn_5 rfl ?_
  refine j_iload_n 1 dX9_numberIn_7 rfl rfl ?_
  refine j_icmp_ge (tgt := 39) h3 h1 dX9_numberIn_8 rfl (fun _ => ?_) (fun _ => ?_)
  · refine j_iload_n 2 dX9_numberIn_39 rfl rfl ?_
    exact j_ireturn h2 dX9_numberIn_40
  · refine j_sipush dX9_numberIn_11 (by decide) ?_
    refine j_iload_n 2 dX9_numberIn_14 rfl rfl ?_
    refine j_bipush dX9_numberIn_15 (by decide) ?_
    refine j_imul dX9_numberIn_17 ?_
    refine j_aload_n 0 dX9_numberIn_18 rfl rfl ?_
    refine j_getr (ci := 9) (k := 2) rfl in_X9 (Nat.le_of_ble_eq_true rfl) rfl rfl fl_X9_9 dX9_numberIn_19 (fun (v1 : Int) (hv1 : 0 ≤ v1) => ?_)
    refine j_iload 3 dX9_numberIn_22 rfl ?_
    refine j_iaload h3 dX9_numberIn_24 (fun (v2 : Int) (hv2 : R32 (v2)) => ?_)
    refine j_iadd dX9_numberIn_25 ?_
    refine j_bipush dX9_numberIn_26 (by decide) ?_
    refine j_isub dX9_numberIn_28 ?_
    refine j_mmin (j_r32 10000 rfl) (w32_R _) lx_X9_53 mx_s_mmin mx_i mx_c_mmin (Nat.le_of_ble_eq_true rfl) (Nat.le_trans (Nat.le_of_ble_eq_true rfl) hd0) dX9_numberIn_29 ?_
    refine j_leti (imin_R (j_r32 10000 rfl) (w32_R _)) (fun v3 hv3 => ?_)
    refine j_istore_n (lv' := [(3, 0, v3), (0, 2, x0), (2, 0, x1), (4, 0, x3)]) dX9_numberIn_32 rfl (Nat.le_of_ble_eq_true rfl) rfl ?_
    refine j_iincL (q := 3) dX9_numberIn_33 rfl (Nat.le_of_ble_eq_true rfl) (fun v4 hv4 => ?_)
    refine j_lv (lv' := [(4, 0, v4), (3, 0, v3), (0, 2, x0), (2, 0, x1)]) rfl ?_
    refine j_goto (tgt := 5) dX9_numberIn_36 rfl ?_
    refine j_sub [2, 3, 1, 0] rfl ?_
    exact k5 x0 x1 v3 v4 S h0 h1 hv3 hv4
def f_X9_numberIn_b5 : Int → Int → Int → Int → jSt → Option (Int × jSt) := jrep (β := Int → Int → Int → Int → jSt → Option (Int × jSt)) (fun _ _ _ _ _ => none) (fun r => f_X9_numberIn_b5B r) jN
theorem p_f_X9_numberIn_b5 {G : jG} {d : Nat} {S0 : jSt} (hd0 : 1 ≤ d) : ∀ (x0 : Int) (x1 : Int) (x2 : Int) (x3 : Int) (S : jSt), (0 ≤ (x0)) → (R32 (x1)) → (R32 (x2)) → (R32 (x3)) → J G yX9_numberIn cX9_numberIn 5 (some .int) d S0 5 [(0, 2, x0), (2, 0, x1), (3, 0, x2), (4, 0, x3)] [] S (f_X9_numberIn_b5  x0 x1 x2 x3 S) :=
  jrep_ind (P := fun (r : Int → Int → Int → Int → jSt → Option (Int × jSt)) => ∀ (x0 : Int) (x1 : Int) (x2 : Int) (x3 : Int) (S : jSt), (0 ≤ (x0)) → (R32 (x1)) → (R32 (x2)) → (R32 (x3)) → J G yX9_numberIn cX9_numberIn 5 (some .int) d S0 5 [(0, 2, x0), (2, 0, x1), (3, 0, x2), (4, 0, x3)] [] S (r x0 x1 x2 x3 S)) (by intros; exact j_none) (fun r k => p_f_X9_numberIn_b5B hd0 k) jN
def f_X9_numberIn (a0 : Int) (a1 : Int) (a2 : Int) (S : jSt) : Option (Int × jSt) :=
  f_X9_numberIn_b5 a0 a2 0 a1 S
theorem e_X9_numberIn {G : jG} {d : Nat} {S0 : jSt} (hd0 : 1 ≤ d) (a0 : Int) (a1 : Int) (a2 : Int) (S : jSt) (h0 : 0 ≤ (a0)) (h1 : R32 (a1)) (h2 : R32 (a2)) : J G yX9_numberIn cX9_numberIn 5 (some .int) d S0 0 [(0, 2, a0), (1, 0, a1), (2, 0, a2)] [] S (f_X9_numberIn a0 a1 a2 S) := by
  unfold f_X9_numberIn
  refine j_iconst dX9_numberIn_0 ?_
  refine j_istore_n (lv' := [(3, 0, 0), (0, 2, a0), (1, 0, a1), (2, 0, a2)]) dX9_numberIn_1 rfl (Nat.le_of_ble_eq_true rfl) rfl ?_
  refine j_iload_n 2 dX9_numberIn_2 rfl rfl ?_
  refine j_istore (lv' := [(4, 0, a1), (3, 0, 0), (0, 2, a0), (1, 0, a1), (2, 0, a2)]) dX9_numberIn_3 (Nat.le_of_ble_eq_true rfl) rfl ?_
  refine j_sub [2, 4, 1, 0] rfl ?_
  exact p_f_X9_numberIn_b5 hd0 a0 a2 0 a1 S h0 h2 (jZ_R jz0) h1
theorem c_X9_numberIn {G : jG} (a0 : Int) (a1 : Int) (a2 : Int) (S : jSt) (h0 : 0 ≤ (a0)) (h1 : R32 (a1)) (h2 : R32 (a2)) : CT G yX9_numberIn cX9_numberIn 5 (some .int) 1 ([(2, a0), (0, a1), (0, a2)].map jval) S (f_X9_numberIn a0 a1 a2 S) := ct_of [(2, a0), (0, a1), (0, a2)] (by decide) rfl (Nat.le_of_ble_eq_true rfl) (e_X9_numberIn (Nat.le_refl _) a0 a1 a2 S h0 h1 h2)
-- X9_signKind
def f_X9_signKind_b179 (S : jSt) : Option (Int × jSt) :=
  some (0, S)
theorem p_f_X9_signKind_b179 {G : jG} {d : Nat} {S0 : jSt} (hd0 : 1 ≤ d) : ∀ (S : jSt), J G yX9_signKind cX9_signKind 2 (some .int) d S0 179 [] [] S (f_X9_signKind_b179   S) := by
  intro S
  unfold f_X9_signKind_b179
  refine j_iconst dX9_signKind_179 ?_
  exact j_ireturn (jZ_R jz0) dX9_signKind_180
def f_X9_signKind_b139 (x0 : Int) (S : jSt) : Option (Int × jSt) :=
  some (x0, S)
theorem p_f_X9_signKind_b139 {G : jG} {d : Nat} {S0 : jSt} (hd0 : 1 ≤ d) : ∀ (x0 : Int) (S : jSt), (R32 (x0)) → J G yX9_signKind cX9_signKind 2 (some .int) d S0 139 [] [(0, x0)] S (f_X9_signKind_b139  x0 S) := by
  intro x0 S h0
  unfold f_X9_signKind_b139
  exact j_ireturn h0 dX9_signKind_139
def f_X9_signKind_b151 (x0 : Int) (S : jSt) : Option (Int × jSt) :=
  some (x0, S)
theorem p_f_X9_signKind_b151 {G : jG} {d : Nat} {S0 : jSt} (hd0 : 1 ≤ d) : ∀ (x0 : Int) (S : jSt), (R32 (x0)) → J G yX9_signKind cX9_signKind 2 (some .int) d S0 151 [] [(0, x0)] S (f_X9_signKind_b151  x0 S) := by
  intro x0 S h0
  unfold f_X9_signKind_b151
  exact j_ireturn h0 dX9_signKind_151
def f_X9_signKind (a0 : Int) (a1 : Int) (S : jSt) : Option (Int × jSt) :=
  if a0 = 35 then some (36, S) else if a0 = 36 then f_X9_signKind_b179 S else if a0 = 37 then f_X9_signKind_b179 S else if a0 = 38 then f_X9_signKind_b179 S else if a0 = 39 then f_X9_signKind_b179 S else if a0 = 40 then some (41, S) else if a0 = 41 then some (42, S) else if a0 = 42 then some (39, S) else if a0 = 43 then some (37, S) else if a0 = 44 then f_X9_signKind_b179 S else if a0 = 45 then some (38, S) else if a0 = 46 then f_X9_signKind_b179 S else if a0 = 47 then some (40, S) else if a0 = 48 then f_X9_signKind_b179 S else if a0 = 49 then f_X9_signKind_b179 S else if a0 = 50 then f_X9_signKind_b179 S else if a0 = 51 then f_X9_signKind_b179 S else if a0 = 52 then f_X9_signKind_b179 S else if a0 = 53 then f_X9_signKind_b179 S else if a0 = 54 then f_X9_signKind_b179 S else if a0 = 55 then f_X9_signKind_b179 S else if a0 = 56 then f_X9_signKind_b179 S else if a0 = 57 then f_X9_signKind_b179 S else if a0 = 58 then f_X9_signKind_b179 S else if a0 = 59 then some (43, S) else if a0 = 60 then if a1 = 0 then f_X9_signKind_b139 31 S else f_X9_signKind_b139 32 S else if a0 = 61 then some (35, S) else if a0 = 62 then if a1 = 0 then f_X9_signKind_b151 33 S else f_X9_signKind_b151 34 S else f_X9_signKind_b179 S
theorem e_X9_signKind {G : jG} {d : Nat} {S0 : jSt} (hd0 : 1 ≤ d) (a0 : Int) (a1 : Int) (S : jSt) (h0 : R32 (a0)) (h1 : (a1) = 0 ∨ (a1) = 1) : J G yX9_signKind cX9_signKind 2 (some .int) d S0 0 [(0, 0, a0), (1, 0, a1)] [] S (f_X9_signKind a0 a1 S) := by
  unfold f_X9_signKind
  refine j_iload_n 0 dX9_signKind_0 rfl rfl ?_
  refine j_ite (fun hc0 => ?_) (fun hc0 => ?_)
  · refine j_tableIn (tgt := 155) (off := 154) h0 dX9_signKind_1 (by omega) (by omega) (by rw [hc0]; rfl) rfl ?_
    refine j_bipush dX9_signKind_155 (by decide) ?_
    exact j_ireturn (j_r32 36 rfl) dX9_signKind_157
  refine j_ite (fun hc1 => ?_) (fun hc1 => ?_)
  · refine j_tableIn (tgt := 179) (off := 178) h0 dX9_signKind_1 (by omega) (by omega) (by rw [hc1]; rfl) rfl ?_
    refine j_sub [] rfl ?_
    exact p_f_X9_signKind_b179 hd0 S
  refine j_ite (fun hc2 => ?_) (fun hc2 => ?_)
  · refine j_tableIn (tgt := 179) (off := 178) h0 dX9_signKind_1 (by omega) (by omega) (by rw [hc2]; rfl) rfl ?_
    refine j_sub [] rfl ?_
    exact p_f_X9_signKind_b179 hd0 S
  refine j_ite (fun hc3 => ?_) (fun hc3 => ?_)
  · refine j_tableIn (tgt := 179) (off := 178) h0 dX9_signKind_1 (by omega) (by omega) (by rw [hc3]; rfl) rfl ?_
    refine j_sub [] rfl ?_
    exact p_f_X9_signKind_b179 hd0 S
  refine j_ite (fun hc4 => ?_) (fun hc4 => ?_)
  · refine j_tableIn (tgt := 179) (off := 178) h0 dX9_signKind_1 (by omega) (by omega) (by rw [hc4]; rfl) rfl ?_
    refine j_sub [] rfl ?_
    exact p_f_X9_signKind_b179 hd0 S
  refine j_ite (fun hc5 => ?_) (fun hc5 => ?_)
  · refine j_tableIn (tgt := 170) (off := 169) h0 dX9_signKind_1 (by omega) (by omega) (by rw [hc5]; rfl) rfl ?_
    refine j_bipush dX9_signKind_170 (by decide) ?_
    exact j_ireturn (j_r32 41 rfl) dX9_signKind_172
  refine j_ite (fun hc6 => ?_) (fun hc6 => ?_)
  · refine j_tableIn (tgt := 173) (off := 172) h0 dX9_signKind_1 (by omega) (by omega) (by rw [hc6]; rfl) rfl ?_
    refine j_bipush dX9_signKind_173 (by decide) ?_
    exact j_ireturn (j_r32 42 rfl) dX9_signKind_175
  refine j_ite (fun hc7 => ?_) (fun hc7 => ?_)
  · refine j_tableIn (tgt := 164) (off := 163) h0 dX9_signKind_1 (by omega) (by omega) (by rw [hc7]; rfl) rfl ?_
    refine j_bipush dX9_signKind_164 (by decide) ?_
    exact j_ireturn (j_r32 39 rfl) dX9_signKind_166
  refine j_ite (fun hc8 => ?_) (fun hc8 => ?_)
  · refine j_tableIn (tgt := 158) (off := 157) h0 dX9_signKind_1 (by omega) (by omega) (by rw [hc8]; rfl) rfl ?_
    refine j_bipush dX9_signKind_158 (by decide) ?_
    exact j_ireturn (j_r32 37 rfl) dX9_signKind_160
  refine j_ite (fun hc9 => ?_) (fun hc9 => ?_)
  · refine j_tableIn (tgt := 179) (off := 178) h0 dX9_signKind_1 (by omega) (by omega) (by rw [hc9]; rfl) rfl ?_
    refine j_sub [] rfl ?_
    exact p_f_X9_signKind_b179 hd0 S
  refine j_ite (fun hc10 => ?_) (fun hc10 => ?_)
  · refine j_tableIn (tgt := 161) (off := 160) h0 dX9_signKind_1 (by omega) (by omega) (by rw [hc10]; rfl) rfl ?_
    refine j_bipush dX9_signKind_161 (by decide) ?_
    exact j_ireturn (j_r32 38 rfl) dX9_signKind_163
  refine j_ite (fun hc11 => ?_) (fun hc11 => ?_)
  · refine j_tableIn (tgt := 179) (off := 178) h0 dX9_signKind_1 (by omega) (by omega) (by rw [hc11]; rfl) rfl ?_
    refine j_sub [] rfl ?_
    exact p_f_X9_signKind_b179 hd0 S
  refine j_ite (fun hc12 => ?_) (fun hc12 => ?_)
  · refine j_tableIn (tgt := 167) (off := 166) h0 dX9_signKind_1 (by omega) (by omega) (by rw [hc12]; rfl) rfl ?_
    refine j_bipush dX9_signKind_167 (by decide) ?_
    exact j_ireturn (j_r32 40 rfl) dX9_signKind_169
  refine j_ite (fun hc13 => ?_) (fun hc13 => ?_)
  · refine j_tableIn (tgt := 179) (off := 178) h0 dX9_signKind_1 (by omega) (by omega) (by rw [hc13]; rfl) rfl ?_
    refine j_sub [] rfl ?_
    exact p_f_X9_signKind_b179 hd0 S
  refine j_ite (fun hc14 => ?_) (fun hc14 => ?_)
  · refine j_tableIn (tgt := 179) (off := 178) h0 dX9_signKind_1 (by omega) (by omega) (by rw [hc14]; rfl) rfl ?_
    refine j_sub [] rfl ?_
    exact p_f_X9_signKind_b179 hd0 S
  refine j_ite (fun hc15 => ?_) (fun hc15 => ?_)
  · refine j_tableIn (tgt := 179) (off := 178) h0 dX9_signKind_1 (by omega) (by omega) (by rw [hc15]; rfl) rfl ?_
    refine j_sub [] rfl ?_
    exact p_f_X9_signKind_b179 hd0 S
  refine j_ite (fun hc16 => ?_) (fun hc16 => ?_)
  · refine j_tableIn (tgt := 179) (off := 178) h0 dX9_signKind_1 (by omega) (by omega) (by rw [hc16]; rfl) rfl ?_
    refine j_sub [] rfl ?_
    exact p_f_X9_signKind_b179 hd0 S
  refine j_ite (fun hc17 => ?_) (fun hc17 => ?_)
  · refine j_tableIn (tgt := 179) (off := 178) h0 dX9_signKind_1 (by omega) (by omega) (by rw [hc17]; rfl) rfl ?_
    refine j_sub [] rfl ?_
    exact p_f_X9_signKind_b179 hd0 S
  refine j_ite (fun hc18 => ?_) (fun hc18 => ?_)
  · refine j_tableIn (tgt := 179) (off := 178) h0 dX9_signKind_1 (by omega) (by omega) (by rw [hc18]; rfl) rfl ?_
    refine j_sub [] rfl ?_
    exact p_f_X9_signKind_b179 hd0 S
  refine j_ite (fun hc19 => ?_) (fun hc19 => ?_)
  · refine j_tableIn (tgt := 179) (off := 178) h0 dX9_signKind_1 (by omega) (by omega) (by rw [hc19]; rfl) rfl ?_
    refine j_sub [] rfl ?_
    exact p_f_X9_signKind_b179 hd0 S
  refine j_ite (fun hc20 => ?_) (fun hc20 => ?_)
  · refine j_tableIn (tgt := 179) (off := 178) h0 dX9_signKind_1 (by omega) (by omega) (by rw [hc20]; rfl) rfl ?_
    refine j_sub [] rfl ?_
    exact p_f_X9_signKind_b179 hd0 S
  refine j_ite (fun hc21 => ?_) (fun hc21 => ?_)
  · refine j_tableIn (tgt := 179) (off := 178) h0 dX9_signKind_1 (by omega) (by omega) (by rw [hc21]; rfl) rfl ?_
    refine j_sub [] rfl ?_
    exact p_f_X9_signKind_b179 hd0 S
  refine j_ite (fun hc22 => ?_) (fun hc22 => ?_)
  · refine j_tableIn (tgt := 179) (off := 178) h0 dX9_signKind_1 (by omega) (by omega) (by rw [hc22]; rfl) rfl ?_
    refine j_sub [] rfl ?_
    exact p_f_X9_signKind_b179 hd0 S
  refine j_ite (fun hc23 => ?_) (fun hc23 => ?_)
  · refine j_tableIn (tgt := 179) (off := 178) h0 dX9_signKind_1 (by omega) (by omega) (by rw [hc23]; rfl) rfl ?_
    refine j_sub [] rfl ?_
    exact p_f_X9_signKind_b179 hd0 S
  refine j_ite (fun hc24 => ?_) (fun hc24 => ?_)
  · refine j_tableIn (tgt := 176) (off := 175) h0 dX9_signKind_1 (by omega) (by omega) (by rw [hc24]; rfl) rfl ?_
    refine j_bipush dX9_signKind_176 (by decide) ?_
    exact j_ireturn (j_r32 43 rfl) dX9_signKind_178
  refine j_ite (fun hc25 => ?_) (fun hc25 => ?_)
  · refine j_tableIn (tgt := 128) (off := 127) h0 dX9_signKind_1 (by omega) (by omega) (by rw [hc25]; rfl) rfl ?_
    refine j_iload_n 1 dX9_signKind_128 rfl rfl ?_
    refine j_if_eq (tgt := 137) (jZ_R h1) dX9_signKind_129 rfl (fun _ => ?_) (fun _ => ?_)
    · refine j_bipush dX9_signKind_137 (by decide) ?_
      refine j_sub [] rfl ?_
      exact p_f_X9_signKind_b139 hd0 31 S (j_r32 31 rfl)
    · refine j_bipush dX9_signKind_132 (by decide) ?_
      refine j_goto (tgt := 139) dX9_signKind_134 rfl ?_
      refine j_sub [] rfl ?_
      exact p_f_X9_signKind_b139 hd0 32 S (j_r32 32 rfl)
  refine j_ite (fun hc26 => ?_) (fun hc26 => ?_)
  · refine j_tableIn (tgt := 152) (off := 151) h0 dX9_signKind_1 (by omega) (by omega) (by rw [hc26]; rfl) rfl ?_
    refine j_bipush dX9_signKind_152 (by decide) ?_
    exact j_ireturn (j_r32 35 rfl) dX9_signKind_154
  refine j_ite (fun hc27 => ?_) (fun hc27 => ?_)
  · refine j_tableIn (tgt := 140) (off := 139) h0 dX9_signKind_1 (by omega) (by omega) (by rw [hc27]; rfl) rfl ?_
    refine j_iload_n 1 dX9_signKind_140 rfl rfl ?_
    refine j_if_eq (tgt := 149) (jZ_R h1) dX9_signKind_141 rfl (fun _ => ?_) (fun _ => ?_)
    · refine j_bipush dX9_signKind_149 (by decide) ?_
      refine j_sub [] rfl ?_
      exact p_f_X9_signKind_b151 hd0 33 S (j_r32 33 rfl)
    · refine j_bipush dX9_signKind_144 (by decide) ?_
      refine j_goto (tgt := 151) dX9_signKind_146 rfl ?_
      refine j_sub [] rfl ?_
      exact p_f_X9_signKind_b151 hd0 34 S (j_r32 34 rfl)
  refine j_tableOut (tgt := 179) h0 dX9_signKind_1 (by omega) rfl ?_
  refine j_sub [] rfl ?_
  exact p_f_X9_signKind_b179 hd0 S
theorem c_X9_signKind {G : jG} (a0 : Int) (a1 : Int) (S : jSt) (h0 : R32 (a0)) (h1 : (a1) = 0 ∨ (a1) = 1) : CT G yX9_signKind cX9_signKind 2 (some .int) 1 ([(0, a0), (0, a1)].map jval) S (f_X9_signKind a0 a1 S) := ct_of [(0, a0), (0, a1)] (by decide) rfl (Nat.le_of_ble_eq_true rfl) (e_X9_signKind (Nat.le_refl _) a0 a1 S h0 h1)
-- X9_isWord
def f_X9_isWord_b3B (r3 : Int → Int → Int → Int → Int → jSt → Option (Int × jSt)) (x0 : Int) (x1 : Int) (x2 : Int) (x3 : Int) (x4 : Int) (S : jSt) : Option (Int × jSt) :=
  if x3 ≤ x4 then some (1, S) else fcall (f_J0_charAt_5068e (w32 (x1 + x4)) S) (fun v2 S3 => fgetr S3 x0 9 2 (fun v4 => fald S3 v4 (w32 (x2 + x4)) 1 (fun v5 => if v2 = v5 then flet (w32 (x4 + 1)) (fun v6 => r3 x0 x1 x2 x3 v6 S3) else some (0, S3))))
theorem p_f_X9_isWord_b3B {G : jG} {d : Nat} {S0 : jSt} (hd0 : 6 ≤ d) {r3 : Int → Int → Int → Int → Int → jSt → Option (Int × jSt)} (k3 : ∀ (x0 : Int) (x1 : Int) (x2 : Int) (x3 : Int) (x4 : Int) (S : jSt), (0 ≤ (x0)) → (R32 (x1)) → (R32 (x2)) → (R32 (x3)) → (R32 (x4)) → J G yX9_isWord cX9_isWord 5 (some .boolean) d S0 3 [(0, 2, x0), (1, 0, x1), (2, 0, x2), (3, 0, x3), (4, 0, x4)] [] S (r3 x0 x1 x2 x3 x4 S)) : ∀ (x0 : Int) (x1 : Int) (x2 : Int) (x3 : Int) (x4 : Int) (S : jSt), (0 ≤ (x0)) → (R32 (x1)) → (R32 (x2)) → (R32 (x3)) → (R32 (x4)) → J G yX9_isWord cX9_isWord 5 (some .boolean) d S0 3 [(0, 2, x0), (1, 0, x1), (2, 0, x2), (3, 0, x3), (4, 0, x4)] [] S (f_X9_isWord_b3B r3 x0 x1 x2 x3 x4 S) := by
  intro x0 x1 x2 x3 x4 S h0 h1 h2 h3 h4
  unfold f_X9_isWord_b3B
  refine j_iload 4 dX9_isWord_3 rfl ?_
  refine j_iload_n 3 dX9_isWord_5 rfl rfl ?_
  refine j_icmp_ge (tgt := 38) h4 h3 dX9_isWord_6 rfl (fun _ => ?_) (fun _ => ?_)
  · refine j_iconst dX9_isWord_38 ?_
    exact j_zreturn jz1 dX9_isWord_39
  · obtain ⟨v1, hv1⟩ : ∃ z : Int, z = ((G.2.2.2.2.2.1 : Nat) : Int) := ⟨_, rfl⟩
    refine j_ldcS rfl hv1 dX9_isWord_9 ?_
    refine j_iload_n 1 dX9_isWord_11 rfl rfl ?_
    refine j_iload 4 dX9_isWord_12 rfl ?_
    refine j_iadd dX9_isWord_14 ?_
    refine j_callVs (As := [(0, w32 (x1 + x4))]) (st := []) hv1 kc_J0_charAt_5068e (c_J0_charAt_5068e v1 (w32 (x1 + x4)) S hv1 (w32_R _)) lm_X9_65 ki_J0_charAt_5068e ke_J0_charAt_5068e rfl (Nat.le_of_ble_eq_true rfl) (Nat.le_trans (m := 6) (Nat.le_of_ble_eq_true rfl) hd0) dX9_isWord_15 (fun (v2 : Int) (S3 : jSt) (hv2 : R32 (v2)) => ?_)
    refine j_aload_n 0 dX9_isWord_18 rfl rfl ?_
    refine j_getr (ci := 9) (k := 2) rfl in_X9 (Nat.le_of_ble_eq_true rfl) rfl rfl fl_X9_9 dX9_isWord_19 (fun (v4 : Int) (hv4 : 0 ≤ v4) => ?_)
    refine j_iload_n 2 dX9_isWord_22 rfl rfl ?_
    refine j_iload 4 dX9_isWord_23 rfl ?_
    refine j_iadd dX9_isWord_25 ?_
    refine j_iaload (w32_R _) dX9_isWord_26 (fun (v5 : Int) (hv5 : R32 (v5)) => ?_)
    refine j_icmp_eq (tgt := 32) hv2 hv5 dX9_isWord_27 rfl (fun _ => ?_) (fun _ => ?_)
    · refine j_iincL (q := 4) dX9_isWord_32 rfl (Nat.le_of_ble_eq_true rfl) (fun v6 hv6 => ?_)
      refine j_lv (lv' := [(4, 0, v6), (0, 2, x0), (1, 0, x1), (2, 0, x2), (3, 0, x3)]) rfl ?_
      refine j_goto (tgt := 3) dX9_isWord_35 rfl ?_
      refine j_sub [1, 2, 3, 4, 0] rfl ?_
      exact k3 x0 x1 x2 x3 v6 S3 h0 h1 h2 h3 hv6
    · refine j_iconst dX9_isWord_30 ?_
      exact j_zreturn jz0 dX9_isWord_31
def f_X9_isWord_b3 : Int → Int → Int → Int → Int → jSt → Option (Int × jSt) := jrep (β := Int → Int → Int → Int → Int → jSt → Option (Int × jSt)) (fun _ _ _ _ _ _ => none) (fun r => f_X9_isWord_b3B r) jN
theorem p_f_X9_isWord_b3 {G : jG} {d : Nat} {S0 : jSt} (hd0 : 6 ≤ d) : ∀ (x0 : Int) (x1 : Int) (x2 : Int) (x3 : Int) (x4 : Int) (S : jSt), (0 ≤ (x0)) → (R32 (x1)) → (R32 (x2)) → (R32 (x3)) → (R32 (x4)) → J G yX9_isWord cX9_isWord 5 (some .boolean) d S0 3 [(0, 2, x0), (1, 0, x1), (2, 0, x2), (3, 0, x3), (4, 0, x4)] [] S (f_X9_isWord_b3  x0 x1 x2 x3 x4 S) :=
  jrep_ind (P := fun (r : Int → Int → Int → Int → Int → jSt → Option (Int × jSt)) => ∀ (x0 : Int) (x1 : Int) (x2 : Int) (x3 : Int) (x4 : Int) (S : jSt), (0 ≤ (x0)) → (R32 (x1)) → (R32 (x2)) → (R32 (x3)) → (R32 (x4)) → J G yX9_isWord cX9_isWord 5 (some .boolean) d S0 3 [(0, 2, x0), (1, 0, x1), (2, 0, x2), (3, 0, x3), (4, 0, x4)] [] S (r x0 x1 x2 x3 x4 S)) (by intros; exact j_none) (fun r k => p_f_X9_isWord_b3B hd0 k) jN
def f_X9_isWord (a0 : Int) (a1 : Int) (a2 : Int) (a3 : Int) (S : jSt) : Option (Int × jSt) :=
  f_X9_isWord_b3 a0 a1 a2 a3 0 S
theorem e_X9_isWord {G : jG} {d : Nat} {S0 : jSt} (hd0 : 6 ≤ d) (a0 : Int) (a1 : Int) (a2 : Int) (a3 : Int) (S : jSt) (h0 : 0 ≤ (a0)) (h1 : R32 (a1)) (h2 : R32 (a2)) (h3 : R32 (a3)) : J G yX9_isWord cX9_isWord 5 (some .boolean) d S0 0 [(0, 2, a0), (1, 0, a1), (2, 0, a2), (3, 0, a3)] [] S (f_X9_isWord a0 a1 a2 a3 S) := by
  unfold f_X9_isWord
  refine j_iconst dX9_isWord_0 ?_
  refine j_istore (lv' := [(4, 0, 0), (0, 2, a0), (1, 0, a1), (2, 0, a2), (3, 0, a3)]) dX9_isWord_1 (Nat.le_of_ble_eq_true rfl) rfl ?_
  refine j_sub [1, 2, 3, 4, 0] rfl ?_
  exact p_f_X9_isWord_b3 hd0 a0 a1 a2 a3 0 S h0 h1 h2 h3 (jZ_R jz0)
theorem c_X9_isWord {G : jG} (a0 : Int) (a1 : Int) (a2 : Int) (a3 : Int) (S : jSt) (h0 : 0 ≤ (a0)) (h1 : R32 (a1)) (h2 : R32 (a2)) (h3 : R32 (a3)) : CT G yX9_isWord cX9_isWord 5 (some .boolean) 6 ([(2, a0), (0, a1), (0, a2), (0, a3)].map jval) S (f_X9_isWord a0 a1 a2 a3 S) := ct_of [(2, a0), (0, a1), (0, a2), (0, a3)] (by decide) rfl (Nat.le_of_ble_eq_true rfl) (e_X9_isWord (Nat.le_refl _) a0 a1 a2 a3 S h0 h1 h2 h3)
-- X9_wordKind
def f_X9_wordKind_b65 (r8 : Int → Int → Int → Int → Int → Int → jSt → Option (Int × jSt)) (x0 : Int) (x1 : Int) (x2 : Int) (x3 : Int) (x4 : Int) (x5 : Int) (S : jSt) : Option (Int × jSt) :=
  flet (w32 (x5 + 1)) (fun v7 => r8 x0 x1 x2 x3 x4 v7 S)
theorem p_f_X9_wordKind_b65 {G : jG} {d : Nat} {S0 : jSt} (hd0 : 7 ≤ d) {r8 : Int → Int → Int → Int → Int → Int → jSt → Option (Int × jSt)} (k8 : ∀ (x0 : Int) (x1 : Int) (x2 : Int) (x3 : Int) (x4 : Int) (x5 : Int) (S : jSt), (0 ≤ (x0)) → (R32 (x1)) → (R32 (x2)) → (R32 (x3)) → (R32 (x4)) → (R32 (x5)) → J G yX9_wordKind cX9_wordKind 6 (some .int) d S0 8 [(0, 2, x0), (1, 0, x1), (2, 0, x2), (3, 0, x3), (4, 0, x4), (5, 0, x5)] [] S (r8 x0 x1 x2 x3 x4 x5 S)) : ∀ (x0 : Int) (x1 : Int) (x2 : Int) (x3 : Int) (x4 : Int) (x5 : Int) (S : jSt), (0 ≤ (x0)) → (R32 (x1)) → (R32 (x2)) → (R32 (x3)) → (R32 (x4)) → (R32 (x5)) → J G yX9_wordKind cX9_wordKind 6 (some .int) d S0 65 [(0, 2, x0), (1, 0, x1), (2, 0, x2), (3, 0, x3), (4, 0, x4), (5, 0, x5)] [] S (f_X9_wordKind_b65 r8 x0 x1 x2 x3 x4 x5 S) := by
  intro x0 x1 x2 x3 x4 x5 S h0 h1 h2 h3 h4 h5
  unfold f_X9_wordKind_b65
  refine j_iincL (q := 5) dX9_wordKind_65 rfl (Nat.le_of_ble_eq_true rfl) (fun v7 hv7 => ?_)
  refine j_lv (lv' := [(5, 0, v7), (0, 2, x0), (1, 0, x1), (2, 0, x2), (3, 0, x3), (4, 0, x4)]) rfl ?_
  refine j_goto (tgt := 8) dX9_wordKind_68 rfl ?_
  refine j_sub [1, 2, 3, 4, 5, 0] rfl ?_
  exact k8 x0 x1 x2 x3 x4 v7 S h0 h1 h2 h3 h4 hv7
def f_X9_wordKind_b56 (r8 : Int → Int → Int → Int → Int → Int → jSt → Option (Int × jSt)) (x0 : Int) (x1 : Int) (x2 : Int) (x3 : Int) (x4 : Int) (S : jSt) : Option (Int × jSt) :=
  flet (w32 (x3 + 1)) (fun v8 => flet (w32 (x4 + 1)) (fun v9 => f_X9_wordKind_b65 r8 x0 x1 x2 v8 v9 x4 S))
theorem p_f_X9_wordKind_b56 {G : jG} {d : Nat} {S0 : jSt} (hd0 : 7 ≤ d) {r8 : Int → Int → Int → Int → Int → Int → jSt → Option (Int × jSt)} (k8 : ∀ (x0 : Int) (x1 : Int) (x2 : Int) (x3 : Int) (x4 : Int) (x5 : Int) (S : jSt), (0 ≤ (x0)) → (R32 (x1)) → (R32 (x2)) → (R32 (x3)) → (R32 (x4)) → (R32 (x5)) → J G yX9_wordKind cX9_wordKind 6 (some .int) d S0 8 [(0, 2, x0), (1, 0, x1), (2, 0, x2), (3, 0, x3), (4, 0, x4), (5, 0, x5)] [] S (r8 x0 x1 x2 x3 x4 x5 S)) : ∀ (x0 : Int) (x1 : Int) (x2 : Int) (x3 : Int) (x4 : Int) (S : jSt), (0 ≤ (x0)) → (R32 (x1)) → (R32 (x2)) → (R32 (x3)) → (R32 (x4)) → J G yX9_wordKind cX9_wordKind 6 (some .int) d S0 56 [(0, 2, x0), (1, 0, x1), (2, 0, x2), (3, 0, x3), (5, 0, x4)] [] S (f_X9_wordKind_b56 r8 x0 x1 x2 x3 x4 S) := by
  intro x0 x1 x2 x3 x4 S h0 h1 h2 h3 h4
  unfold f_X9_wordKind_b56
  refine j_iincL (q := 3) dX9_wordKind_56 rfl (Nat.le_of_ble_eq_true rfl) (fun v8 hv8 => ?_)
  refine j_lv (lv' := [(3, 0, v8), (0, 2, x0), (1, 0, x1), (2, 0, x2), (5, 0, x4)]) rfl ?_
  refine j_iload 4 dX9_wordKind_59 rfl ?_
  refine j_iconst dX9_wordKind_61 ?_
  refine j_iadd dX9_wordKind_62 ?_
  refine j_leti (w32_R _) (fun v9 hv9 => ?_)
  refine j_istore (lv' := [(4, 0, v9), (3, 0, v8), (0, 2, x0), (1, 0, x1), (2, 0, x2), (5, 0, x4)]) dX9_wordKind_63 (Nat.le_of_ble_eq_true rfl) rfl ?_
  refine j_sub [2, 3, 4, 1, 0, 5] rfl ?_
  exact p_f_X9_wordKind_b65 hd0 k8 x0 x1 x2 v8 v9 x4 S h0 h1 h2 hv8 hv9 h4
def f_X9_wordKind_b8B (r8 : Int → Int → Int → Int → Int → Int → jSt → Option (Int × jSt)) (x0 : Int) (x1 : Int) (x2 : Int) (x3 : Int) (x4 : Int) (x5 : Int) (S : jSt) : Option (Int × jSt) :=
  fcall (f_J0_length_8abf5 S) (fun v2 S3 => if v2 ≤ x5 then some (0, S3) else fcall (f_J0_charAt_5068e x5 S3) (fun v5 S6 => if v5 = 32 then if (w32 (x5 - x4)) = (w32 (x2 - x1)) then fcallv S6 x0 9 (f_X9_isWord x0 x4 x1 (w32 (x2 - x1)) S6) (fun v10 S11 => if v10 = 0 then f_X9_wordKind_b56 r8 x0 x1 x2 x3 x5 S11 else some (x3, S11)) else f_X9_wordKind_b56 r8 x0 x1 x2 x3 x5 S6 else f_X9_wordKind_b65 r8 x0 x1 x2 x3 x4 x5 S6))
theorem p_f_X9_wordKind_b8B {G : jG} {d : Nat} {S0 : jSt} (hd0 : 7 ≤ d) {r8 : Int → Int → Int → Int → Int → Int → jSt → Option (Int × jSt)} (k8 : ∀ (x0 : Int) (x1 : Int) (x2 : Int) (x3 : Int) (x4 : Int) (x5 : Int) (S : jSt), (0 ≤ (x0)) → (R32 (x1)) → (R32 (x2)) → (R32 (x3)) → (R32 (x4)) → (R32 (x5)) → J G yX9_wordKind cX9_wordKind 6 (some .int) d S0 8 [(0, 2, x0), (1, 0, x1), (2, 0, x2), (3, 0, x3), (4, 0, x4), (5, 0, x5)] [] S (r8 x0 x1 x2 x3 x4 x5 S)) : ∀ (x0 : Int) (x1 : Int) (x2 : Int) (x3 : Int) (x4 : Int) (x5 : Int) (S : jSt), (0 ≤ (x0)) → (R32 (x1)) → (R32 (x2)) → (R32 (x3)) → (R32 (x4)) → (R32 (x5)) → J G yX9_wordKind cX9_wordKind 6 (some .int) d S0 8 [(0, 2, x0), (1, 0, x1), (2, 0, x2), (3, 0, x3), (4, 0, x4), (5, 0, x5)] [] S (f_X9_wordKind_b8B r8 x0 x1 x2 x3 x4 x5 S) := by
  intro x0 x1 x2 x3 x4 x5 S h0 h1 h2 h3 h4 h5
  unfold f_X9_wordKind_b8B
  refine j_iload 5 dX9_wordKind_8 rfl ?_
  obtain ⟨v1, hv1⟩ : ∃ z : Int, z = ((G.2.2.2.2.2.1 : Nat) : Int) := ⟨_, rfl⟩
  refine j_ldcS rfl hv1 dX9_wordKind_10 ?_
  refine j_callVs (As := []) (st := [(0, x5)]) hv1 kc_J0_length_8abf5 (c_J0_length_8abf5 v1 S hv1) lm_X9_60 ki_J0_length_8abf5 ke_J0_length_8abf5 rfl (Nat.le_of_ble_eq_true rfl) (Nat.le_trans (m := 7) (Nat.le_of_ble_eq_true rfl) hd0) dX9_wordKind_12 (fun (v2 : Int) (S3 : jSt) (hv2 : R32 (v2)) => ?_)
  refine j_icmp_ge (tgt := 71) h5 hv2 dX9_wordKind_15 rfl (fun _ => ?_) (fun _ => ?_)
  · refine j_iconst dX9_wordKind_71 ?_
    exact j_ireturn (jZ_R jz0) dX9_wordKind_72
  · obtain ⟨v4, hv4⟩ : ∃ z : Int, z = ((G.2.2.2.2.2.1 : Nat) : Int) := ⟨_, rfl⟩
    refine j_ldcS rfl hv4 dX9_wordKind_18 ?_
    refine j_iload 5 dX9_wordKind_20 rfl ?_
    refine j_callVs (As := [(0, x5)]) (st := []) hv4 kc_J0_charAt_5068e (c_J0_charAt_5068e v4 x5 S3 hv4 h5) lm_X9_65 ki_J0_charAt_5068e ke_J0_charAt_5068e rfl (Nat.le_of_ble_eq_true rfl) (Nat.le_trans (m := 7) (Nat.le_of_ble_eq_true rfl) hd0) dX9_wordKind_22 (fun (v5 : Int) (S6 : jSt) (hv5 : R32 (v5)) => ?_)
    refine j_bipush dX9_wordKind_25 (by decide) ?_
    refine j_icmp_ne (tgt := 65) hv5 (j_r32 32 rfl) dX9_wordKind_27 rfl (fun _ => ?_) (fun _ => ?_)
    · exact p_f_X9_wordKind_b65 hd0 k8 x0 x1 x2 x3 x4 x5 S6 h0 h1 h2 h3 h4 h5
    · refine j_iload 5 dX9_wordKind_30 rfl ?_
      refine j_iload 4 dX9_wordKind_32 rfl ?_
      refine j_isub dX9_wordKind_34 ?_
      refine j_iload_n 2 dX9_wordKind_35 rfl rfl ?_
      refine j_iload_n 1 dX9_wordKind_36 rfl rfl ?_
      refine j_isub dX9_wordKind_37 ?_
      refine j_icmp_ne (tgt := 56) (w32_R _) (w32_R _) dX9_wordKind_38 rfl (fun _ => ?_) (fun _ => ?_)
      · refine j_sub [0, 1, 2, 3, 5] rfl ?_
        exact p_f_X9_wordKind_b56 hd0 k8 x0 x1 x2 x3 x5 S6 h0 h1 h2 h3 h5
      · refine j_aload_n 0 dX9_wordKind_41 rfl rfl ?_
        refine j_iload 4 dX9_wordKind_42 rfl ?_
        refine j_iload_n 1 dX9_wordKind_44 rfl rfl ?_
        refine j_iload_n 2 dX9_wordKind_45 rfl rfl ?_
        refine j_iload_n 1 dX9_wordKind_46 rfl rfl ?_
        refine j_isub dX9_wordKind_47 ?_
        refine j_callV (ci := 9) (As := [(0, x4), (0, x1), (0, w32 (x2 - x1))]) (st := []) kc_X9_isWord (c_X9_isWord x0 x4 x1 (w32 (x2 - x1)) S6 h0 h4 h1 (w32_R _)) rfl lm_X9_69 ki_X9_isWord ke_X9_isWord rfl (Nat.le_of_ble_eq_true rfl) (Nat.le_trans (m := 7) (Nat.le_of_ble_eq_true rfl) hd0) dX9_wordKind_48 (fun (v10 : Int) (S11 : jSt) (hv10 : (v10) = 0 ∨ (v10) = 1) => ?_)
        refine j_if_eq (tgt := 56) (jZ_R hv10) dX9_wordKind_51 rfl (fun _ => ?_) (fun _ => ?_)
        · refine j_sub [0, 1, 2, 3, 5] rfl ?_
          exact p_f_X9_wordKind_b56 hd0 k8 x0 x1 x2 x3 x5 S11 h0 h1 h2 h3 h5
        · refine j_iload_n 3 dX9_wordKind_54 rfl rfl ?_
          exact j_ireturn h3 dX9_wordKind_55
def f_X9_wordKind_b8 : Int → Int → Int → Int → Int → Int → jSt → Option (Int × jSt) := jrep (β := Int → Int → Int → Int → Int → Int → jSt → Option (Int × jSt)) (fun _ _ _ _ _ _ _ => none) (fun r => f_X9_wordKind_b8B r) jN
theorem p_f_X9_wordKind_b8 {G : jG} {d : Nat} {S0 : jSt} (hd0 : 7 ≤ d) : ∀ (x0 : Int) (x1 : Int) (x2 : Int) (x3 : Int) (x4 : Int) (x5 : Int) (S : jSt), (0 ≤ (x0)) → (R32 (x1)) → (R32 (x2)) → (R32 (x3)) → (R32 (x4)) → (R32 (x5)) → J G yX9_wordKind cX9_wordKind 6 (some .int) d S0 8 [(0, 2, x0), (1, 0, x1), (2, 0, x2), (3, 0, x3), (4, 0, x4), (5, 0, x5)] [] S (f_X9_wordKind_b8  x0 x1 x2 x3 x4 x5 S) :=
  jrep_ind (P := fun (r : Int → Int → Int → Int → Int → Int → jSt → Option (Int × jSt)) => ∀ (x0 : Int) (x1 : Int) (x2 : Int) (x3 : Int) (x4 : Int) (x5 : Int) (S : jSt), (0 ≤ (x0)) → (R32 (x1)) → (R32 (x2)) → (R32 (x3)) → (R32 (x4)) → (R32 (x5)) → J G yX9_wordKind cX9_wordKind 6 (some .int) d S0 8 [(0, 2, x0), (1, 0, x1), (2, 0, x2), (3, 0, x3), (4, 0, x4), (5, 0, x5)] [] S (r x0 x1 x2 x3 x4 x5 S)) (by intros; exact j_none) (fun r k => p_f_X9_wordKind_b8B hd0 k) jN
def f_X9_wordKind (a0 : Int) (a1 : Int) (a2 : Int) (S : jSt) : Option (Int × jSt) :=
  f_X9_wordKind_b8 a0 a1 a2 1 0 0 S
theorem e_X9_wordKind {G : jG} {d : Nat} {S0 : jSt} (hd0 : 7 ≤ d) (a0 : Int) (a1 : Int) (a2 : Int) (S : jSt) (h0 : 0 ≤ (a0)) (h1 : R32 (a1)) (h2 : R32 (a2)) : J G yX9_wordKind cX9_wordKind 6 (some .int) d S0 0 [(0, 2, a0), (1, 0, a1), (2, 0, a2)] [] S (f_X9_wordKind a0 a1 a2 S) := by
  unfold f_X9_wordKind
  refine j_iconst dX9_wordKind_0 ?_
  refine j_istore_n (lv' := [(3, 0, 1), (0, 2, a0), (1, 0, a1), (2, 0, a2)]) dX9_wordKind_1 rfl (Nat.le_of_ble_eq_true rfl) rfl ?_
  refine j_iconst dX9_wordKind_2 ?_
  refine j_istore (lv' := [(4, 0, 0), (3, 0, 1), (0, 2, a0), (1, 0, a1), (2, 0, a2)]) dX9_wordKind_3 (Nat.le_of_ble_eq_true rfl) rfl ?_
  refine j_iconst dX9_wordKind_5 ?_
  refine j_istore (lv' := [(5, 0, 0), (4, 0, 0), (3, 0, 1), (0, 2, a0), (1, 0, a1), (2, 0, a2)]) dX9_wordKind_6 (Nat.le_of_ble_eq_true rfl) rfl ?_
  refine j_sub [3, 4, 5, 2, 1, 0] rfl ?_
  exact p_f_X9_wordKind_b8 hd0 a0 a1 a2 1 0 0 S h0 h1 h2 (jZ_R jz1) (jZ_R jz0) (jZ_R jz0)
theorem c_X9_wordKind {G : jG} (a0 : Int) (a1 : Int) (a2 : Int) (S : jSt) (h0 : 0 ≤ (a0)) (h1 : R32 (a1)) (h2 : R32 (a2)) : CT G yX9_wordKind cX9_wordKind 6 (some .int) 7 ([(2, a0), (0, a1), (0, a2)].map jval) S (f_X9_wordKind a0 a1 a2 S) := ct_of [(2, a0), (0, a1), (0, a2)] (by decide) rfl (Nat.le_of_ble_eq_true rfl) (e_X9_wordKind (Nat.le_refl _) a0 a1 a2 S h0 h1 h2)
-- X9_split
def f_X9_split_b181 (r7 : Int → Int → jSt → Option (Int × jSt)) (x0 : Int) (x1 : Int) (S : jSt) : Option (Int × jSt) :=
  flet (w32 (x1 + 1)) (fun v5 => r7 x0 v5 S)
theorem p_f_X9_split_b181 {G : jG} {d : Nat} {S0 : jSt} (hd0 : 8 ≤ d) {r7 : Int → Int → jSt → Option (Int × jSt)} (k7 : ∀ (x0 : Int) (x1 : Int) (S : jSt), (0 ≤ (x0)) → (R32 (x1)) → J G yX9_split cX9_split 3 none d S0 7 [(0, 2, x0), (1, 0, x1)] [] S (r7 x0 x1 S)) : ∀ (x0 : Int) (x1 : Int) (S : jSt), (0 ≤ (x0)) → (R32 (x1)) → J G yX9_split cX9_split 3 none d S0 181 [(0, 2, x0), (1, 0, x1)] [] S (f_X9_split_b181 r7 x0 x1 S) := by
  intro x0 x1 S h0 h1
  unfold f_X9_split_b181
  refine j_iincL (q := 1) dX9_split_181 rfl (Nat.le_of_ble_eq_true rfl) (fun v5 hv5 => ?_)
  refine j_lv (lv' := [(1, 0, v5), (0, 2, x0)]) rfl ?_
  refine j_goto (tgt := 7) dX9_split_184 rfl ?_
  refine j_sub [1, 0] rfl ?_
  exact k7 x0 v5 S h0 hv5
def f_X9_split_b169 (r7 : Int → Int → jSt → Option (Int × jSt)) (x0 : Int) (x1 : Int) (S : jSt) : Option (Int × jSt) :=
  fget S x0 9 1 (fun v31 => fput S x0 9 1 (w32 (v31 + 1)) (fun S32 => f_X9_split_b181 r7 x0 x1 S32))
theorem p_f_X9_split_b169 {G : jG} {d : Nat} {S0 : jSt} (hd0 : 8 ≤ d) {r7 : Int → Int → jSt → Option (Int × jSt)} (k7 : ∀ (x0 : Int) (x1 : Int) (S : jSt), (0 ≤ (x0)) → (R32 (x1)) → J G yX9_split cX9_split 3 none d S0 7 [(0, 2, x0), (1, 0, x1)] [] S (r7 x0 x1 S)) : ∀ (x0 : Int) (x1 : Int) (S : jSt), (0 ≤ (x0)) → (R32 (x1)) → J G yX9_split cX9_split 3 none d S0 169 [(0, 2, x0), (2, 0, x1)] [] S (f_X9_split_b169 r7 x0 x1 S) := by
  intro x0 x1 S h0 h1
  unfold f_X9_split_b169
  refine j_aload_n 0 dX9_split_169 rfl rfl ?_
  refine j_dup dX9_split_170 (fun h => nomatch h) ?_
  refine j_get (ci := 9) (k := 1) (t := 0) rfl in_X9 (Nat.le_of_ble_eq_true rfl) rfl rfl fl_X9_28 dX9_split_171 (fun (v31 : Int) (hv31 : R32 (v31)) => ?_)
  refine j_iconst dX9_split_174 ?_
  refine j_iadd dX9_split_175 ?_
  refine j_puti (ci := 9) (k := 1) (ty0 := tyX9) rfl in_X9 (Nat.le_of_ble_eq_true rfl) rfl tyX9_ok nmX9 rfl rfl (by decide +kernel) (w32_R _) fl_X9_28 dX9_split_176 (fun S32 => ?_)
  refine j_iload_n 1 dX9_split_179 rfl rfl ?_
  refine j_istore_n (lv' := [(1, 0, x1), (0, 2, x0), (2, 0, x1)]) dX9_split_180 rfl (Nat.le_of_ble_eq_true rfl) rfl ?_
  refine j_sub [1, 0] rfl ?_
  exact p_f_X9_split_b181 hd0 k7 x0 x1 S32 h0 h1
def f_X9_split_b165 (r7 : Int → Int → jSt → Option (Int × jSt)) (x0 : Int) (x1 : Int) (x2 : Int) (x3 : Int) (x4 : Int) (x5 : Int) (S : jSt) : Option (Int × jSt) :=
  fcall (f_X9_signKind x4 x5 S) (fun v28 S29 => fast S29 x2 x3 1 v28 (fun S30 => f_X9_split_b169 r7 x0 x1 S30))
theorem p_f_X9_split_b165 {G : jG} {d : Nat} {S0 : jSt} (hd0 : 8 ≤ d) {r7 : Int → Int → jSt → Option (Int × jSt)} (k7 : ∀ (x0 : Int) (x1 : Int) (S : jSt), (0 ≤ (x0)) → (R32 (x1)) → J G yX9_split cX9_split 3 none d S0 7 [(0, 2, x0), (1, 0, x1)] [] S (r7 x0 x1 S)) : ∀ (x0 : Int) (x1 : Int) (x2 : Int) (x3 : Int) (x4 : Int) (x5 : Int) (S : jSt), (0 ≤ (x0)) → (R32 (x1)) → (0 ≤ (x2)) → (R32 (x3)) → (R32 (x4)) → ((x5) = 0 ∨ (x5) = 1) → J G yX9_split cX9_split 3 none d S0 165 [(0, 2, x0), (2, 0, x1)] [(0, x5), (0, x4), (0, x3), (2, x2)] S (f_X9_split_b165 r7 x0 x1 x2 x3 x4 x5 S) := by
  intro x0 x1 x2 x3 x4 x5 S h0 h1 h2 h3 h4 h5
  unfold f_X9_split_b165
  refine j_callS (As := [(0, x4), (0, x5)]) (st := [(0, x3), (2, x2)]) kc_X9_signKind (c_X9_signKind x4 x5 S h4 h5) lm_X9_49 ks_X9_signKind rfl (Nat.le_of_ble_eq_true rfl) (Nat.le_trans (m := 8) (Nat.le_of_ble_eq_true rfl) hd0) dX9_split_165 (fun (v28 : Int) (S29 : jSt) (hv28 : R32 (v28)) => ?_)
  refine j_iastore h3 hv28 dX9_split_168 (fun S30 => ?_)
  exact p_f_X9_split_b169 hd0 k7 x0 x1 S30 h0 h1
def f_X9_split_b7B (r7 : Int → Int → jSt → Option (Int × jSt)) (x0 : Int) (x1 : Int) (S : jSt) : Option (Int × jSt) :=
  fget S x0 9 0 (fun v2 => if v2 ≤ x1 then some (0, S) else fgetr S x0 9 2 (fun v3 => fald S v3 x1 1 (fun v4 => if v4 = 32 then f_X9_split_b181 r7 x0 x1 S else fgetr S x0 9 2 (fun v6 => fald S v6 x1 1 (fun v7 => if v7 = 10 then f_X9_split_b181 r7 x0 x1 S else fcallv S x0 9 (f_X9_lastOf x0 x1 S) (fun v8 S9 => fgetr S9 x0 9 4 (fun v10 => fget S9 x0 9 1 (fun v11 => fast S9 v10 v11 1 x1 (fun S12 => fgetr S12 x0 9 5 (fun v13 => fget S12 x0 9 1 (fun v14 => fast S12 v13 v14 1 0 (fun S15 => fgetr S15 x0 9 2 (fun v16 => fald S15 v16 x1 1 (fun v17 => fcall (f_X9_isLetter v17 S15) (fun v18 S19 => if v18 = 0 then fgetr S19 x0 9 2 (fun v20 => fald S19 v20 x1 1 (fun v21 => fcall (f_X9_isDigit v21 S19) (fun v22 S23 => if v22 = 0 then fgetr S23 x0 9 3 (fun v24 => fget S23 x0 9 1 (fun v25 => fgetr S23 x0 9 2 (fun v26 => fald S23 v26 x1 1 (fun v27 => if v8 ≤ x1 then f_X9_split_b165 r7 x0 v8 v24 v25 v27 0 S23 else f_X9_split_b165 r7 x0 v8 v24 v25 v27 1 S23)))) else fgetr S23 x0 9 3 (fun v33 => fget S23 x0 9 1 (fun v34 => fast S23 v33 v34 1 30 (fun S35 => fgetr S35 x0 9 5 (fun v36 => fget S35 x0 9 1 (fun v37 => fcallv S35 x0 9 (f_X9_numberIn x0 x1 (w32 (v8 + 1)) S35) (fun v38 S39 => fast S39 v36 v37 1 v38 (fun S40 => f_X9_split_b169 r7 x0 v8 S40)))))))))) else fgetr S19 x0 9 3 (fun v41 => fget S19 x0 9 1 (fun v42 => fcallv S19 x0 9 (f_X9_wordKind x0 x1 (w32 (v8 + 1)) S19) (fun v43 S44 => fast S44 v41 v42 1 v43 (fun S45 => f_X9_split_b169 r7 x0 v8 S45)))))))))))))))))))
theorem p_f_X9_split_b7B {G : jG} {d : Nat} {S0 : jSt} (hd0 : 8 ≤ d) {r7 : Int → Int → jSt → Option (Int × jSt)} (k7 : ∀ (x0 : Int) (x1 : Int) (S : jSt), (0 ≤ (x0)) → (R32 (x1)) → J G yX9_split cX9_split 3 none d S0 7 [(0, 2, x0), (1, 0, x1)] [] S (r7 x0 x1 S)) : ∀ (x0 : Int) (x1 : Int) (S : jSt), (0 ≤ (x0)) → (R32 (x1)) → J G yX9_split cX9_split 3 none d S0 7 [(0, 2, x0), (1, 0, x1)] [] S (f_X9_split_b7B r7 x0 x1 S) := by
  intro x0 x1 S h0 h1
  unfold f_X9_split_b7B
  refine j_iload_n 1 dX9_split_7 rfl rfl ?_
  refine j_aload_n 0 dX9_split_8 rfl rfl ?_
  refine j_get (ci := 9) (k := 0) (t := 0) rfl in_X9 (Nat.le_of_ble_eq_true rfl) rfl rfl fl_X9_24 dX9_split_9 (fun (v2 : Int) (hv2 : R32 (v2)) => ?_)
  refine j_icmp_ge (tgt := 187) h1 hv2 dX9_split_12 rfl (fun _ => ?_) (fun _ => ?_)
  · exact j_return dX9_split_187
  · refine j_aload_n 0 dX9_split_15 rfl rfl ?_
    refine j_getr (ci := 9) (k := 2) rfl in_X9 (Nat.le_of_ble_eq_true rfl) rfl rfl fl_X9_9 dX9_split_16 (fun (v3 : Int) (hv3 : 0 ≤ v3) => ?_)
    refine j_iload_n 1 dX9_split_19 rfl rfl ?_
    refine j_iaload h1 dX9_split_20 (fun (v4 : Int) (hv4 : R32 (v4)) => ?_)
    refine j_bipush dX9_split_21 (by decide) ?_
    refine j_icmp_eq (tgt := 181) hv4 (j_r32 32 rfl) dX9_split_23 rfl (fun _ => ?_) (fun _ => ?_)
    · exact p_f_X9_split_b181 hd0 k7 x0 x1 S h0 h1
    · refine j_aload_n 0 dX9_split_26 rfl rfl ?_
      refine j_getr (ci := 9) (k := 2) rfl in_X9 (Nat.le_of_ble_eq_true rfl) rfl rfl fl_X9_9 dX9_split_27 (fun (v6 : Int) (hv6 : 0 ≤ v6) => ?_)
      refine j_iload_n 1 dX9_split_30 rfl rfl ?_
      refine j_iaload h1 dX9_split_31 (fun (v7 : Int) (hv7 : R32 (v7)) => ?_)
      refine j_bipush dX9_split_32 (by decide) ?_
      refine j_icmp_ne (tgt := 40) hv7 (j_r32 10 rfl) dX9_split_34 rfl (fun _ => ?_) (fun _ => ?_)
      · refine j_aload_n 0 dX9_split_40 rfl rfl ?_
        refine j_iload_n 1 dX9_split_41 rfl rfl ?_
        refine j_callV (ci := 9) (As := [(0, x1)]) (st := []) kc_X9_lastOf (c_X9_lastOf x0 x1 S h0 h1) rfl lm_X9_31 ki_X9_lastOf ke_X9_lastOf rfl (Nat.le_of_ble_eq_true rfl) (Nat.le_trans (m := 8) (Nat.le_of_ble_eq_true rfl) hd0) dX9_split_42 (fun (v8 : Int) (S9 : jSt) (hv8 : R32 (v8)) => ?_)
        refine j_istore_n (lv' := [(2, 0, v8), (0, 2, x0), (1, 0, x1)]) dX9_split_45 rfl (Nat.le_of_ble_eq_true rfl) rfl ?_
        refine j_aload_n 1 dX9_split_46 rfl rfl ?_
        refine j_getr (ci := 9) (k := 4) rfl in_X9 (Nat.le_of_ble_eq_true rfl) rfl rfl fl_X9_18 dX9_split_47 (fun (v10 : Int) (hv10 : 0 ≤ v10) => ?_)
        refine j_aload_n 1 dX9_split_50 rfl rfl ?_
        refine j_get (ci := 9) (k := 1) (t := 0) rfl in_X9 (Nat.le_of_ble_eq_true rfl) rfl rfl fl_X9_28 dX9_split_51 (fun (v11 : Int) (hv11 : R32 (v11)) => ?_)
        refine j_iload_n 2 dX9_split_54 rfl rfl ?_
        refine j_iastore hv11 h1 dX9_split_55 (fun S12 => ?_)
        refine j_aload_n 1 dX9_split_56 rfl rfl ?_
        refine j_getr (ci := 9) (k := 5) rfl in_X9 (Nat.le_of_ble_eq_true rfl) rfl rfl fl_X9_21 dX9_split_57 (fun (v13 : Int) (hv13 : 0 ≤ v13) => ?_)
        refine j_aload_n 1 dX9_split_60 rfl rfl ?_
        refine j_get (ci := 9) (k := 1) (t := 0) rfl in_X9 (Nat.le_of_ble_eq_true rfl) rfl rfl fl_X9_28 dX9_split_61 (fun (v14 : Int) (hv14 : R32 (v14)) => ?_)
        refine j_iconst dX9_split_64 ?_
        refine j_iastore hv14 (jZ_R jz0) dX9_split_65 (fun S15 => ?_)
        refine j_aload_n 1 dX9_split_66 rfl rfl ?_
        refine j_getr (ci := 9) (k := 2) rfl in_X9 (Nat.le_of_ble_eq_true rfl) rfl rfl fl_X9_9 dX9_split_67 (fun (v16 : Int) (hv16 : 0 ≤ v16) => ?_)
        refine j_iload_n 2 dX9_split_70 rfl rfl ?_
        refine j_iaload h1 dX9_split_71 (fun (v17 : Int) (hv17 : R32 (v17)) => ?_)
        refine j_callS (As := [(0, v17)]) (st := []) kc_X9_isLetter (c_X9_isLetter v17 S15 hv17) lm_X9_35 ks_X9_isLetter rfl (Nat.le_of_ble_eq_true rfl) (Nat.le_trans (m := 8) (Nat.le_of_ble_eq_true rfl) hd0) dX9_split_72 (fun (v18 : Int) (S19 : jSt) (hv18 : (v18) = 0 ∨ (v18) = 1) => ?_)
        refine j_if_eq (tgt := 98) (jZ_R hv18) dX9_split_75 rfl (fun _ => ?_) (fun _ => ?_)
        · refine j_aload_n 1 dX9_split_98 rfl rfl ?_
          refine j_getr (ci := 9) (k := 2) rfl in_X9 (Nat.le_of_ble_eq_true rfl) rfl rfl fl_X9_9 dX9_split_99 (fun (v20 : Int) (hv20 : 0 ≤ v20) => ?_)
          refine j_iload_n 2 dX9_split_102 rfl rfl ?_
          refine j_iaload h1 dX9_split_103 (fun (v21 : Int) (hv21 : R32 (v21)) => ?_)
          refine j_callS (As := [(0, v21)]) (st := []) kc_X9_isDigit (c_X9_isDigit v21 S19 hv21) lm_X9_43 ks_X9_isDigit rfl (Nat.le_of_ble_eq_true rfl) (Nat.le_trans (m := 8) (Nat.le_of_ble_eq_true rfl) hd0) dX9_split_104 (fun (v22 : Int) (S23 : jSt) (hv22 : (v22) = 0 ∨ (v22) = 1) => ?_)
          refine j_if_eq (tgt := 141) (jZ_R hv22) dX9_split_107 rfl (fun _ => ?_) (fun _ => ?_)
          · refine j_aload_n 1 dX9_split_141 rfl rfl ?_
            refine j_getr (ci := 9) (k := 3) rfl in_X9 (Nat.le_of_ble_eq_true rfl) rfl rfl fl_X9_15 dX9_split_142 (fun (v24 : Int) (hv24 : 0 ≤ v24) => ?_)
            refine j_aload_n 1 dX9_split_145 rfl rfl ?_
            refine j_get (ci := 9) (k := 1) (t := 0) rfl in_X9 (Nat.le_of_ble_eq_true rfl) rfl rfl fl_X9_28 dX9_split_146 (fun (v25 : Int) (hv25 : R32 (v25)) => ?_)
            refine j_aload_n 1 dX9_split_149 rfl rfl ?_
            refine j_getr (ci := 9) (k := 2) rfl in_X9 (Nat.le_of_ble_eq_true rfl) rfl rfl fl_X9_9 dX9_split_150 (fun (v26 : Int) (hv26 : 0 ≤ v26) => ?_)
            refine j_iload_n 2 dX9_split_153 rfl rfl ?_
            refine j_iaload h1 dX9_split_154 (fun (v27 : Int) (hv27 : R32 (v27)) => ?_)
            refine j_iload_n 0 dX9_split_155 rfl rfl ?_
            refine j_iload_n 2 dX9_split_156 rfl rfl ?_
            refine j_icmp_le (tgt := 164) hv8 h1 dX9_split_157 rfl (fun _ => ?_) (fun _ => ?_)
            · refine j_iconst dX9_split_164 ?_
              refine j_sub [1, 0] rfl ?_
              exact p_f_X9_split_b165 hd0 k7 x0 v8 v24 v25 v27 0 S23 h0 hv8 hv24 hv25 hv27 jz0
            · refine j_iconst dX9_split_160 ?_
              refine j_goto (tgt := 165) dX9_split_161 rfl ?_
              refine j_sub [1, 0] rfl ?_
              exact p_f_X9_split_b165 hd0 k7 x0 v8 v24 v25 v27 1 S23 h0 hv8 hv24 hv25 hv27 jz1
          · refine j_aload_n 1 dX9_split_110 rfl rfl ?_
            refine j_getr (ci := 9) (k := 3) rfl in_X9 (Nat.le_of_ble_eq_true rfl) rfl rfl fl_X9_15 dX9_split_111 (fun (v33 : Int) (hv33 : 0 ≤ v33) => ?_)
            refine j_aload_n 1 dX9_split_114 rfl rfl ?_
            refine j_get (ci := 9) (k := 1) (t := 0) rfl in_X9 (Nat.le_of_ble_eq_true rfl) rfl rfl fl_X9_28 dX9_split_115 (fun (v34 : Int) (hv34 : R32 (v34)) => ?_)
            refine j_bipush dX9_split_118 (by decide) ?_
            refine j_iastore hv34 (j_r32 30 rfl) dX9_split_120 (fun S35 => ?_)
            refine j_aload_n 1 dX9_split_121 rfl rfl ?_
            refine j_getr (ci := 9) (k := 5) rfl in_X9 (Nat.le_of_ble_eq_true rfl) rfl rfl fl_X9_21 dX9_split_122 (fun (v36 : Int) (hv36 : 0 ≤ v36) => ?_)
            refine j_aload_n 1 dX9_split_125 rfl rfl ?_
            refine j_get (ci := 9) (k := 1) (t := 0) rfl in_X9 (Nat.le_of_ble_eq_true rfl) rfl rfl fl_X9_28 dX9_split_126 (fun (v37 : Int) (hv37 : R32 (v37)) => ?_)
            refine j_aload_n 1 dX9_split_129 rfl rfl ?_
            refine j_iload_n 2 dX9_split_130 rfl rfl ?_
            refine j_iload_n 0 dX9_split_131 rfl rfl ?_
            refine j_iconst dX9_split_132 ?_
            refine j_iadd dX9_split_133 ?_
            refine j_callV (ci := 9) (As := [(0, x1), (0, w32 (v8 + 1))]) (st := [(0, v37), (2, v36)]) kc_X9_numberIn (c_X9_numberIn x0 x1 (w32 (v8 + 1)) S35 h0 h1 (w32_R _)) rfl lm_X9_46 ki_X9_numberIn ke_X9_numberIn rfl (Nat.le_of_ble_eq_true rfl) (Nat.le_trans (m := 8) (Nat.le_of_ble_eq_true rfl) hd0) dX9_split_134 (fun (v38 : Int) (S39 : jSt) (hv38 : R32 (v38)) => ?_)
            refine j_iastore hv37 hv38 dX9_split_137 (fun S40 => ?_)
            refine j_goto (tgt := 169) dX9_split_138 rfl ?_
            refine j_sub [1, 0] rfl ?_
            exact p_f_X9_split_b169 hd0 k7 x0 v8 S40 h0 hv8
        · refine j_aload_n 1 dX9_split_78 rfl rfl ?_
          refine j_getr (ci := 9) (k := 3) rfl in_X9 (Nat.le_of_ble_eq_true rfl) rfl rfl fl_X9_15 dX9_split_79 (fun (v41 : Int) (hv41 : 0 ≤ v41) => ?_)
          refine j_aload_n 1 dX9_split_82 rfl rfl ?_
          refine j_get (ci := 9) (k := 1) (t := 0) rfl in_X9 (Nat.le_of_ble_eq_true rfl) rfl rfl fl_X9_28 dX9_split_83 (fun (v42 : Int) (hv42 : R32 (v42)) => ?_)
          refine j_aload_n 1 dX9_split_86 rfl rfl ?_
          refine j_iload_n 2 dX9_split_87 rfl rfl ?_
          refine j_iload_n 0 dX9_split_88 rfl rfl ?_
          refine j_iconst dX9_split_89 ?_
          refine j_iadd dX9_split_90 ?_
          refine j_callV (ci := 9) (As := [(0, x1), (0, w32 (v8 + 1))]) (st := [(0, v42), (2, v41)]) kc_X9_wordKind (c_X9_wordKind x0 x1 (w32 (v8 + 1)) S19 h0 h1 (w32_R _)) rfl lm_X9_39 ki_X9_wordKind ke_X9_wordKind rfl (Nat.le_of_ble_eq_true rfl) (Nat.le_trans (m := 8) (Nat.le_of_ble_eq_true rfl) hd0) dX9_split_91 (fun (v43 : Int) (S44 : jSt) (hv43 : R32 (v43)) => ?_)
          refine j_iastore hv42 hv43 dX9_split_94 (fun S45 => ?_)
          refine j_goto (tgt := 169) dX9_split_95 rfl ?_
          refine j_sub [1, 0] rfl ?_
          exact p_f_X9_split_b169 hd0 k7 x0 v8 S45 h0 hv8
      · refine j_goto (tgt := 181) dX9_split_37 rfl ?_
        exact p_f_X9_split_b181 hd0 k7 x0 x1 S h0 h1
def f_X9_split_b7 : Int → Int → jSt → Option (Int × jSt) := jrep (β := Int → Int → jSt → Option (Int × jSt)) (fun _ _ _ => none) (fun r => f_X9_split_b7B r) jN
theorem p_f_X9_split_b7 {G : jG} {d : Nat} {S0 : jSt} (hd0 : 8 ≤ d) : ∀ (x0 : Int) (x1 : Int) (S : jSt), (0 ≤ (x0)) → (R32 (x1)) → J G yX9_split cX9_split 3 none d S0 7 [(0, 2, x0), (1, 0, x1)] [] S (f_X9_split_b7  x0 x1 S) :=
  jrep_ind (P := fun (r : Int → Int → jSt → Option (Int × jSt)) => ∀ (x0 : Int) (x1 : Int) (S : jSt), (0 ≤ (x0)) → (R32 (x1)) → J G yX9_split cX9_split 3 none d S0 7 [(0, 2, x0), (1, 0, x1)] [] S (r x0 x1 S)) (by intros; exact j_none) (fun r k => p_f_X9_split_b7B hd0 k) jN
def f_X9_split (a0 : Int) (S : jSt) : Option (Int × jSt) :=
  fput S a0 9 1 0 (fun S1 => f_X9_split_b7 a0 0 S1)
theorem e_X9_split {G : jG} {d : Nat} {S0 : jSt} (hd0 : 8 ≤ d) (a0 : Int) (S : jSt) (h0 : 0 ≤ (a0)) : J G yX9_split cX9_split 3 none d S0 0 [(0, 2, a0)] [] S (f_X9_split a0 S) := by
  unfold f_X9_split
  refine j_aload_n 0 dX9_split_0 rfl rfl ?_
  refine j_iconst dX9_split_1 ?_
  refine j_puti (ci := 9) (k := 1) (ty0 := tyX9) rfl in_X9 (Nat.le_of_ble_eq_true rfl) rfl tyX9_ok nmX9 rfl rfl (by decide +kernel) (jZ_R jz0) fl_X9_28 dX9_split_2 (fun S1 => ?_)
  refine j_iconst dX9_split_5 ?_
  refine j_istore_n (lv' := [(1, 0, 0), (0, 2, a0)]) dX9_split_6 rfl (Nat.le_of_ble_eq_true rfl) rfl ?_
  refine j_sub [1, 0] rfl ?_
  exact p_f_X9_split_b7 hd0 a0 0 S1 h0 (jZ_R jz0)
theorem c_X9_split {G : jG} (a0 : Int) (S : jSt) (h0 : 0 ≤ (a0)) : CT G yX9_split cX9_split 3 none 8 ([(2, a0)].map jval) S (f_X9_split a0 S) := ct_of [(2, a0)] (by decide) rfl (Nat.le_of_ble_eq_true rfl) (e_X9_split (Nat.le_refl _) a0 S h0)
-- X4_read
def f_X4_read_b88 (S : jSt) : Option (Int × jSt) :=
  some (1, S)
theorem p_f_X4_read_b88 {G : jG} {d : Nat} {S0 : jSt} (hd0 : 107 ≤ d) : ∀ (S : jSt), J G yX4_read cX4_read 2 (some .boolean) d S0 88 [] [] S (f_X4_read_b88   S) := by
  intro S
  unfold f_X4_read_b88
  refine j_iconst dX4_read_88 ?_
  exact j_zreturn jz1 dX4_read_89
def f_X4_read_b58B (r58 : Int → Int → jSt → Option (Int × jSt)) (x0 : Int) (x1 : Int) (S : jSt) : Option (Int × jSt) :=
  if 24 < x1 then f_X4_read_b88 S else fcallv S x0 4 (f_X4_kind x0 S) (fun v18 S19 => if v18 = 44 then f_X4_read_b88 S19 else fcallv S19 x0 4 (f_X4_readClause x0 S19) (fun v20 S21 => if v20 = 0 then some (0, S21) else flet (w32 (x1 + 1)) (fun v22 => r58 x0 v22 S21)))
theorem p_f_X4_read_b58B {G : jG} {d : Nat} {S0 : jSt} (hd0 : 107 ≤ d) {r58 : Int → Int → jSt → Option (Int × jSt)} (k58 : ∀ (x0 : Int) (x1 : Int) (S : jSt), (0 ≤ (x0)) → (R32 (x1)) → J G yX4_read cX4_read 2 (some .boolean) d S0 58 [(0, 2, x0), (1, 0, x1)] [] S (r58 x0 x1 S)) : ∀ (x0 : Int) (x1 : Int) (S : jSt), (0 ≤ (x0)) → (R32 (x1)) → J G yX4_read cX4_read 2 (some .boolean) d S0 58 [(0, 2, x0), (1, 0, x1)] [] S (f_X4_read_b58B r58 x0 x1 S) := by
  intro x0 x1 S h0 h1
  unfold f_X4_read_b58B
  refine j_iload_n 1 dX4_read_58 rfl rfl ?_
  refine j_bipush dX4_read_59 (by decide) ?_
  refine j_icmp_gt (tgt := 88) h1 (j_r32 24 rfl) dX4_read_61 rfl (fun _ => ?_) (fun _ => ?_)
  · refine j_sub [] rfl ?_
    exact p_f_X4_read_b88 hd0 S
  · refine j_aload_n 0 dX4_read_64 rfl rfl ?_
    refine j_callV (ci := 4) (As := []) (st := []) kc_X4_kind (c_X4_kind x0 S h0) rfl lm_X4_55 ki_X4_kind ke_X4_kind rfl (Nat.le_of_ble_eq_true rfl) (Nat.le_trans (m := 107) (Nat.le_of_ble_eq_true rfl) hd0) dX4_read_65 (fun (v18 : Int) (S19 : jSt) (hv18 : R32 (v18)) => ?_)
    refine j_bipush dX4_read_68 (by decide) ?_
    refine j_icmp_eq (tgt := 88) hv18 (j_r32 44 rfl) dX4_read_70 rfl (fun _ => ?_) (fun _ => ?_)
    · refine j_sub [] rfl ?_
      exact p_f_X4_read_b88 hd0 S19
    · refine j_aload_n 0 dX4_read_73 rfl rfl ?_
      refine j_callV (ci := 4) (As := []) (st := []) kc_X4_readClause (c_X4_readClause x0 S19 h0) rfl lm_X4_59 ki_X4_readClause ke_X4_readClause rfl (Nat.le_of_ble_eq_true rfl) (Nat.le_trans (m := 107) (Nat.le_of_ble_eq_true rfl) hd0) dX4_read_74 (fun (v20 : Int) (S21 : jSt) (hv20 : (v20) = 0 ∨ (v20) = 1) => ?_)
      refine j_if_ne (tgt := 82) (jZ_R hv20) dX4_read_77 rfl (fun _ => ?_) (fun _ => ?_)
      · refine j_iincL (q := 1) dX4_read_82 rfl (Nat.le_of_ble_eq_true rfl) (fun v22 hv22 => ?_)
        refine j_lv (lv' := [(1, 0, v22), (0, 2, x0)]) rfl ?_
        refine j_goto (tgt := 58) dX4_read_85 rfl ?_
        refine j_sub [1, 0] rfl ?_
        exact k58 x0 v22 S21 h0 hv22
      · refine j_iconst dX4_read_80 ?_
        exact j_zreturn jz0 dX4_read_81
def f_X4_read_b58 : Int → Int → jSt → Option (Int × jSt) := jrep (β := Int → Int → jSt → Option (Int × jSt)) (fun _ _ _ => none) (fun r => f_X4_read_b58B r) jN
theorem p_f_X4_read_b58 {G : jG} {d : Nat} {S0 : jSt} (hd0 : 107 ≤ d) : ∀ (x0 : Int) (x1 : Int) (S : jSt), (0 ≤ (x0)) → (R32 (x1)) → J G yX4_read cX4_read 2 (some .boolean) d S0 58 [(0, 2, x0), (1, 0, x1)] [] S (f_X4_read_b58  x0 x1 S) :=
  jrep_ind (P := fun (r : Int → Int → jSt → Option (Int × jSt)) => ∀ (x0 : Int) (x1 : Int) (S : jSt), (0 ≤ (x0)) → (R32 (x1)) → J G yX4_read cX4_read 2 (some .boolean) d S0 58 [(0, 2, x0), (1, 0, x1)] [] S (r x0 x1 S)) (by intros; exact j_none) (fun r k => p_f_X4_read_b58B hd0 k) jN
def f_X4_read (a0 : Int) (S : jSt) : Option (Int × jSt) :=
  fgetr S a0 4 2 (fun v1 => fcallv S v1 9 (f_X9_split v1 S) (fun v2 S3 => fput S3 a0 4 3 0 (fun S4 => fput S4 a0 4 5 0 (fun S5 => fput S5 a0 4 6 0 (fun S6 => fput S6 a0 4 0 0 (fun S7 => fput S7 a0 4 1 (-1) (fun S8 => fgetr S8 a0 4 7 (fun v9 => fcall (f_J7_fill_53178 v9 0 S8) (fun v10 S11 => fgetr S11 a0 4 9 (fun v12 => fcall (f_J7_fill_53178 v12 0 S11) (fun v13 S14 => fgetr S14 a0 4 10 (fun v15 => fcall (f_J7_fill_53178 v15 0 S14) (fun v16 S17 => f_X4_read_b58 a0 0 S17)))))))))))))
theorem e_X4_read {G : jG} {d : Nat} {S0 : jSt} (hd0 : 107 ≤ d) (a0 : Int) (S : jSt) (h0 : 0 ≤ (a0)) : J G yX4_read cX4_read 2 (some .boolean) d S0 0 [(0, 2, a0)] [] S (f_X4_read a0 S) := by
  unfold f_X4_read
  refine j_aload_n 0 dX4_read_0 rfl rfl ?_
  refine j_getr (ci := 4) (k := 2) rfl in_X4 (Nat.le_of_ble_eq_true rfl) rfl rfl fl_X4_31 dX4_read_1 (fun (v1 : Int) (hv1 : 0 ≤ v1) => ?_)
  refine j_callV (ci := 9) (As := []) (st := []) kc_X9_split (c_X9_split v1 S hv1) rfl lm_X4_35 ki_X9_split ke_X9_split rfl (Nat.le_of_ble_eq_true rfl) (Nat.le_trans (m := 107) (Nat.le_of_ble_eq_true rfl) hd0) dX4_read_4 (fun v2 S3 _ => ?_)
  refine j_aload_n 0 dX4_read_7 rfl rfl ?_
  refine j_iconst dX4_read_8 ?_
  refine j_puti (ci := 4) (k := 3) (ty0 := tyX4) rfl in_X4 (Nat.le_of_ble_eq_true rfl) rfl tyX4_ok nmX4 rfl rfl (by decide +kernel) (jZ_R jz0) fl_X4_40 dX4_read_9 (fun S4 => ?_)
  refine j_aload_n 0 dX4_read_12 rfl rfl ?_
  refine j_iconst dX4_read_13 ?_
  refine j_puti (ci := 4) (k := 5) (ty0 := tyX4) rfl in_X4 (Nat.le_of_ble_eq_true rfl) rfl tyX4_ok nmX4 rfl rfl (by decide +kernel) (jZ_R jz0) fl_X4_43 dX4_read_14 (fun S5 => ?_)
  refine j_aload_n 0 dX4_read_17 rfl rfl ?_
  refine j_iconst dX4_read_18 ?_
  refine j_puti (ci := 4) (k := 6) (ty0 := tyX4) rfl in_X4 (Nat.le_of_ble_eq_true rfl) rfl tyX4_ok nmX4 rfl rfl (by decide +kernel) (jZ_R jz0) fl_X4_46 dX4_read_19 (fun S6 => ?_)
  refine j_aload_n 0 dX4_read_22 rfl rfl ?_
  refine j_iconst dX4_read_23 ?_
  refine j_puti (ci := 4) (k := 0) (ty0 := tyX4) rfl in_X4 (Nat.le_of_ble_eq_true rfl) rfl tyX4_ok nmX4 rfl rfl (by decide +kernel) (jZ_R jz0) fl_X4_9 dX4_read_24 (fun S7 => ?_)
  refine j_aload_n 0 dX4_read_27 rfl rfl ?_
  refine j_iconst dX4_read_28 ?_
  refine j_puti (ci := 4) (k := 1) (ty0 := tyX4) rfl in_X4 (Nat.le_of_ble_eq_true rfl) rfl tyX4_ok nmX4 rfl rfl (by decide +kernel) (j_r32 (-1) rfl) fl_X4_15 dX4_read_29 (fun S8 => ?_)
  refine j_aload_n 0 dX4_read_32 rfl rfl ?_
  refine j_getr (ci := 4) (k := 7) rfl in_X4 (Nat.le_of_ble_eq_true rfl) rfl rfl fl_X4_18 dX4_read_33 (fun (v9 : Int) (hv9 : 0 ≤ v9) => ?_)
  refine j_iconst dX4_read_36 ?_
  refine j_callS (As := [(2, v9), (0, 0)]) (st := []) kc_J7_fill_53178 (c_J7_fill_53178 v9 0 S8 hv9 (jZ_R jz0)) lm_X4_49 ks_J7_fill_53178 rfl (Nat.le_of_ble_eq_true rfl) (Nat.le_trans (m := 107) (Nat.le_of_ble_eq_true rfl) hd0) dX4_read_37 (fun v10 S11 _ => ?_)
  refine j_aload_n 0 dX4_read_40 rfl rfl ?_
  refine j_getr (ci := 4) (k := 9) rfl in_X4 (Nat.le_of_ble_eq_true rfl) rfl rfl fl_X4_25 dX4_read_41 (fun (v12 : Int) (hv12 : 0 ≤ v12) => ?_)
  refine j_iconst dX4_read_44 ?_
  refine j_callS (As := [(2, v12), (0, 0)]) (st := []) kc_J7_fill_53178 (c_J7_fill_53178 v12 0 S11 hv12 (jZ_R jz0)) lm_X4_49 ks_J7_fill_53178 rfl (Nat.le_of_ble_eq_true rfl) (Nat.le_trans (m := 107) (Nat.le_of_ble_eq_true rfl) hd0) dX4_read_45 (fun v13 S14 _ => ?_)
  refine j_aload_n 0 dX4_read_48 rfl rfl ?_
  refine j_getr (ci := 4) (k := 10) rfl in_X4 (Nat.le_of_ble_eq_true rfl) rfl rfl fl_X4_28 dX4_read_49 (fun (v15 : Int) (hv15 : 0 ≤ v15) => ?_)
  refine j_iconst dX4_read_52 ?_
  refine j_callS (As := [(2, v15), (0, 0)]) (st := []) kc_J7_fill_53178 (c_J7_fill_53178 v15 0 S14 hv15 (jZ_R jz0)) lm_X4_49 ks_J7_fill_53178 rfl (Nat.le_of_ble_eq_true rfl) (Nat.le_trans (m := 107) (Nat.le_of_ble_eq_true rfl) hd0) dX4_read_53 (fun v16 S17 _ => ?_)
  refine j_iconst dX4_read_56 ?_
  refine j_istore_n (lv' := [(1, 0, 0), (0, 2, a0)]) dX4_read_57 rfl (Nat.le_of_ble_eq_true rfl) rfl ?_
  refine j_sub [1, 0] rfl ?_
  exact p_f_X4_read_b58 hd0 a0 0 S17 h0 (jZ_R jz0)
theorem c_X4_read {G : jG} (a0 : Int) (S : jSt) (h0 : 0 ≤ (a0)) : CT G yX4_read cX4_read 2 (some .boolean) 107 ([(2, a0)].map jval) S (f_X4_read a0 S) := ct_of [(2, a0)] (by decide) rfl (Nat.le_of_ble_eq_true rfl) (e_X4_read (Nat.le_refl _) a0 S h0)
-- X6_init
def f_X6_init (a0 : Int) (a1 : Int) (a2 : Int) (a3 : Int) (a4 : Int) (a5 : Int) (S : jSt) : Option (Int × jSt) :=
  fput S a0 6 0 a1 (fun S1 => fput S1 a0 6 1 a2 (fun S2 => fput S2 a0 6 2 a3 (fun S3 => fput S3 a0 6 3 a4 (fun S4 => fput S4 a0 6 4 a5 (fun S5 => some (0, S5))))))
theorem e_X6_init {G : jG} {d : Nat} {S0 : jSt} (hd0 : 1 ≤ d) (a0 : Int) (a1 : Int) (a2 : Int) (a3 : Int) (a4 : Int) (a5 : Int) (S : jSt) (h0 : 0 ≤ (a0)) (h1 : R32 (a1)) (h2 : 0 ≤ (a2)) (h3 : 0 ≤ (a3)) (h4 : 0 ≤ (a4)) (h5 : 0 ≤ (a5)) : J G yX6_init cX6_init 6 none d S0 0 [(0, 2, a0), (1, 0, a1), (2, 2, a2), (3, 2, a3), (4, 2, a4), (5, 2, a5)] [] S (f_X6_init a0 a1 a2 a3 a4 a5 S) := by
  unfold f_X6_init
  refine j_aload_n 0 dX6_init_0 rfl rfl ?_
  refine j_objInit lo_X6_1 oi_i oi_c (Nat.le_of_ble_eq_true rfl) (Nat.le_trans (Nat.le_of_ble_eq_true rfl) hd0) dX6_init_1 ?_
  refine j_aload_n 0 dX6_init_4 rfl rfl ?_
  refine j_iload_n 1 dX6_init_5 rfl rfl ?_
  refine j_putFi (ci := 6) (k := 0) (ty0 := tyX6) rfl in_X6 (Nat.le_of_ble_eq_true rfl) rfl tyX6_ok nmX6 rfl rfl rfl rfl (by decide +kernel) h1 fl_X6_7 dX6_init_6 (fun S1 => ?_)
  refine j_aload_n 0 dX6_init_9 rfl rfl ?_
  refine j_aload_n 2 dX6_init_10 rfl rfl ?_
  refine j_putFr (ci := 6) (k := 1) (ty0 := tyX6) rfl in_X6 (Nat.le_of_ble_eq_true rfl) rfl tyX6_ok nmX6 rfl (Or.inr ⟨_, rfl⟩) rfl rfl rfl (by decide +kernel) h2 fl_X6_13 dX6_init_11 (fun S2 => ?_)
  refine j_aload_n 0 dX6_init_14 rfl rfl ?_
  refine j_aload_n 3 dX6_init_15 rfl rfl ?_
  refine j_putFr (ci := 6) (k := 2) (ty0 := tyX6) rfl in_X6 (Nat.le_of_ble_eq_true rfl) rfl tyX6_ok nmX6 rfl (Or.inr ⟨_, rfl⟩) rfl rfl rfl (by decide +kernel) h3 fl_X6_17 dX6_init_16 (fun S3 => ?_)
  refine j_aload_n 0 dX6_init_19 rfl rfl ?_
  refine j_aload 4 dX6_init_20 rfl ?_
  refine j_putFr (ci := 6) (k := 3) (ty0 := tyX6) rfl in_X6 (Nat.le_of_ble_eq_true rfl) rfl tyX6_ok nmX6 rfl (Or.inr ⟨_, rfl⟩) rfl rfl rfl (by decide +kernel) h4 fl_X6_20 dX6_init_22 (fun S4 => ?_)
  refine j_aload_n 0 dX6_init_25 rfl rfl ?_
  refine j_aload 5 dX6_init_26 rfl ?_
  refine j_putFr (ci := 6) (k := 4) (ty0 := tyX6) rfl in_X6 (Nat.le_of_ble_eq_true rfl) rfl tyX6_ok nmX6 rfl (Or.inr ⟨_, rfl⟩) rfl rfl rfl (by decide +kernel) h5 fl_X6_23 dX6_init_28 (fun S5 => ?_)
  exact j_return dX6_init_31
theorem c_X6_init {G : jG} (a0 : Int) (a1 : Int) (a2 : Int) (a3 : Int) (a4 : Int) (a5 : Int) (S : jSt) (h0 : 0 ≤ (a0)) (h1 : R32 (a1)) (h2 : 0 ≤ (a2)) (h3 : 0 ≤ (a3)) (h4 : 0 ≤ (a4)) (h5 : 0 ≤ (a5)) : CT G yX6_init cX6_init 6 none 1 ([(2, a0), (0, a1), (2, a2), (2, a3), (2, a4), (2, a5)].map jval) S (f_X6_init a0 a1 a2 a3 a4 a5 S) := ct_of [(2, a0), (0, a1), (2, a2), (2, a3), (2, a4), (2, a5)] (by decide) rfl (Nat.le_of_ble_eq_true rfl) (e_X6_init (Nat.le_refl _) a0 a1 a2 a3 a4 a5 S h0 h1 h2 h3 h4 h5)
-- X4_script
def f_X4_script (a0 : Int) (S : jSt) : Option (Int × jSt) :=
  fnew S 6 (fun v1 S2 => fget S2 a0 4 5 (fun v3 => fgetr S2 a0 4 7 (fun v4 => fget S2 a0 4 5 (fun v5 => fcall (f_J7_copyOf_59c91 v4 (w32 (v5 * 4)) S2) (fun v6 S7 => if 0 ≤ v6 then fgetr S7 a0 4 8 (fun v8 => fget S7 a0 4 6 (fun v9 => fcall (f_J7_copyOf_59c91 v8 v9 S7) (fun v10 S11 => if 0 ≤ v10 then fgetr S11 a0 4 9 (fun v12 => fclone S11 v12 (fun v13 S14 => fgetr S14 a0 4 10 (fun v15 => fclone S14 v15 (fun v16 S17 => fcall (f_X6_init v1 v3 v6 v10 v13 v16 S17) (fun v18 S19 => some (v1, S19)))))) else none))) else none)))))
theorem e_X4_script {G : jG} {d : Nat} {S0 : jSt} (hd0 : 2 ≤ d) (a0 : Int) (S : jSt) (h0 : 0 ≤ (a0)) : J G yX4_script cX4_script 1 (some (.object "HouseClearedUp$Script")) d S0 0 [(0, 2, a0)] [] S (f_X4_script a0 S) := by
  unfold f_X4_script
  refine j_new (ci := 6) rfl in_X6 rfl tyX6_ok rfl pl_X6 cl_X4_63 is_X6 iz_X6 dX4_script_0 (fun (v1 : Int) (S2 : jSt) hv1 => ?_)
  refine j_dup dX4_script_3 (fun h => nomatch h) ?_
  refine j_aload_n 0 dX4_script_4 rfl rfl ?_
  refine j_get (ci := 4) (k := 5) (t := 0) rfl in_X4 (Nat.le_of_ble_eq_true rfl) rfl rfl fl_X4_43 dX4_script_5 (fun (v3 : Int) (hv3 : R32 (v3)) => ?_)
  refine j_aload_n 0 dX4_script_8 rfl rfl ?_
  refine j_getr (ci := 4) (k := 7) rfl in_X4 (Nat.le_of_ble_eq_true rfl) rfl rfl fl_X4_18 dX4_script_9 (fun (v4 : Int) (hv4 : 0 ≤ v4) => ?_)
  refine j_aload_n 0 dX4_script_12 rfl rfl ?_
  refine j_get (ci := 4) (k := 5) (t := 0) rfl in_X4 (Nat.le_of_ble_eq_true rfl) rfl rfl fl_X4_43 dX4_script_13 (fun (v5 : Int) (hv5 : R32 (v5)) => ?_)
  refine j_iconst dX4_script_16 ?_
  refine j_imul dX4_script_17 ?_
  refine j_callS (As := [(2, v4), (0, w32 (v5 * 4))]) (st := [(0, v3), (2, v1), (2, v1)]) kc_J7_copyOf_59c91 (c_J7_copyOf_59c91 v4 (w32 (v5 * 4)) S2 hv4 (w32_R _)) lm_X4_65 ks_J7_copyOf_59c91 rfl (Nat.le_of_ble_eq_true rfl) (Nat.le_trans (m := 2) (Nat.le_of_ble_eq_true rfl) hd0) dX4_script_18 (fun v6 S7 _ => ?_)
  refine j_cast (z := v6) (st' := [(2, v6), (0, v3), (2, v1), (2, v1)]) (fun h => by simp only [List.map_cons, jpush, jtag, jval3r h]) (fun hq18 => ?_)
  refine j_aload_n 0 dX4_script_21 rfl rfl ?_
  refine j_getr (ci := 4) (k := 8) rfl in_X4 (Nat.le_of_ble_eq_true rfl) rfl rfl fl_X4_22 dX4_script_22 (fun (v8 : Int) (hv8 : 0 ≤ v8) => ?_)
  refine j_aload_n 0 dX4_script_25 rfl rfl ?_
  refine j_get (ci := 4) (k := 6) (t := 0) rfl in_X4 (Nat.le_of_ble_eq_true rfl) rfl rfl fl_X4_46 dX4_script_26 (fun (v9 : Int) (hv9 : R32 (v9)) => ?_)
  refine j_callS (As := [(2, v8), (0, v9)]) (st := [(2, v6), (0, v3), (2, v1), (2, v1)]) kc_J7_copyOf_59c91 (c_J7_copyOf_59c91 v8 v9 S7 hv8 hv9) lm_X4_65 ks_J7_copyOf_59c91 rfl (Nat.le_of_ble_eq_true rfl) (Nat.le_trans (m := 2) (Nat.le_of_ble_eq_true rfl) hd0) dX4_script_29 (fun v10 S11 _ => ?_)
  refine j_cast (z := v10) (st' := [(2, v10), (2, v6), (0, v3), (2, v1), (2, v1)]) (fun h => by simp only [List.map_cons, jpush, jtag, jval3r h]) (fun hq29 => ?_)
  refine j_aload_n 0 dX4_script_32 rfl rfl ?_
  refine j_getr (ci := 4) (k := 9) rfl in_X4 (Nat.le_of_ble_eq_true rfl) rfl rfl fl_X4_25 dX4_script_33 (fun (v12 : Int) (hv12 : 0 ≤ v12) => ?_)
  refine j_clone lc_X4_69 cw_s cw_n cw_i cw_e cl_X4_70 (Nat.le_of_ble_eq_true rfl) (Nat.le_trans (Nat.le_of_ble_eq_true rfl) hd0) dX4_script_36 dX4_script_39 (fun (v13 : Int) (S14 : jSt) hv13 => ?_)
  refine j_aload_n 0 dX4_script_42 rfl rfl ?_
  refine j_getr (ci := 4) (k := 10) rfl in_X4 (Nat.le_of_ble_eq_true rfl) rfl rfl fl_X4_28 dX4_script_43 (fun (v15 : Int) (hv15 : 0 ≤ v15) => ?_)
  refine j_clone lc_X4_69 cw_s cw_n cw_i cw_e cl_X4_70 (Nat.le_of_ble_eq_true rfl) (Nat.le_trans (Nat.le_of_ble_eq_true rfl) hd0) dX4_script_46 dX4_script_49 (fun (v16 : Int) (S17 : jSt) hv16 => ?_)
  refine j_callI (As := [(0, v3), (2, v6), (2, v10), (2, v13), (2, v16)]) (st := [(2, v1)]) kc_X6_init (c_X6_init v1 v3 v6 v10 v13 v16 S17 hv1 hv3 hq18 hq29 hv13 hv16) lm_X4_74 ki_X6_init rfl rfl (Nat.le_of_ble_eq_true rfl) (Nat.le_trans (m := 2) (Nat.le_of_ble_eq_true rfl) hd0) dX4_script_52 (fun v18 S19 => ?_)
  refine j_weak (z := v1) (st' := [(3, v1)]) (fun h => by simp only [List.map_cons, jpush, jtag, jval3r h]) hv1 ?_
  exact j_areturn dX4_script_55
theorem c_X4_script {G : jG} (a0 : Int) (S : jSt) (h0 : 0 ≤ (a0)) : CT G yX4_script cX4_script 1 (some (.object "HouseClearedUp$Script")) 2 ([(2, a0)].map jval) S (f_X4_script a0 S) := ct_of [(2, a0)] (by decide) rfl (Nat.le_of_ble_eq_true rfl) (e_X4_script (Nat.le_refl _) a0 S h0)
-- X11_text
def f_X11_text (a0 : Int) (S : jSt) : Option (Int × jSt) :=
  fgetr S a0 11 0 (fun v1 => fget S v1 10 4 (fun v2 => if v2 < 4 then fgetr S a0 11 7 (fun v3 => fcallv S v3 4 (f_X4_read v3 S) (fun v4 S5 => fgetr S5 a0 11 6 (fun v6 => fput S5 v6 9 0 0 (fun S7 => if v4 = 0 then some ((-1), S7) else fgetr S7 a0 11 0 (fun v8 => fgetr S7 v8 10 5 (fun v9 => fgetr S7 a0 11 0 (fun v10 => fget S7 v10 10 4 (fun v11 => fgetr S7 a0 11 7 (fun v12 => fcallv S7 v12 4 (f_X4_script v12 S7) (fun v13 S14 => fastr S14 v9 v11 5 6 v13 (fun S15 => fgetr S15 a0 11 0 (fun v16 => fget S15 v16 10 4 (fun v17 => fput S15 v16 10 4 (w32 (v17 + 1)) (fun S18 => fgetr S18 a0 11 0 (fun v19 => fget S18 v19 10 4 (fun v20 => some (w32 (v20 - 1), S18))))))))))))))))) else some ((-1), S)))
theorem e_X11_text {G : jG} {d : Nat} {S0 : jSt} (hd0 : 108 ≤ d) (a0 : Int) (S : jSt) (h0 : 0 ≤ (a0)) : J G yX11_text cX11_text 2 (some .int) d S0 0 [(0, 2, a0)] [] S (f_X11_text a0 S) := by
  unfold f_X11_text
  refine j_aload_n 0 dX11_text_0 rfl rfl ?_
  refine j_getr (ci := 11) (k := 0) rfl in_X11 (Nat.le_of_ble_eq_true rfl) rfl rfl fl_X11_10 dX11_text_1 (fun (v1 : Int) (hv1 : 0 ≤ v1) => ?_)
  refine j_get (ci := 10) (k := 4) (t := 0) rfl in_X10 (Nat.le_of_ble_eq_true rfl) rfl rfl fl_X11_131 dX11_text_4 (fun (v2 : Int) (hv2 : R32 (v2)) => ?_)
  refine j_iconst dX11_text_7 ?_
  refine j_icmp_lt (tgt := 13) hv2 (j_r32 4 rfl) dX11_text_8 rfl (fun _ => ?_) (fun _ => ?_)
  · refine j_aload_n 0 dX11_text_13 rfl rfl ?_
    refine j_getr (ci := 11) (k := 7) rfl in_X11 (Nat.le_of_ble_eq_true rfl) rfl rfl fl_X11_51 dX11_text_14 (fun (v3 : Int) (hv3 : 0 ≤ v3) => ?_)
    refine j_callV (ci := 4) (As := []) (st := []) kc_X4_read (c_X4_read v3 S hv3) rfl lm_X11_134 ki_X4_read ke_X4_read rfl (Nat.le_of_ble_eq_true rfl) (Nat.le_trans (m := 108) (Nat.le_of_ble_eq_true rfl) hd0) dX11_text_17 (fun (v4 : Int) (S5 : jSt) (hv4 : (v4) = 0 ∨ (v4) = 1) => ?_)
    refine j_istore_n (lv' := [(1, 0, v4), (0, 2, a0)]) dX11_text_20 rfl (Nat.le_of_ble_eq_true rfl) rfl ?_
    refine j_aload_n 1 dX11_text_21 rfl rfl ?_
    refine j_getr (ci := 11) (k := 6) rfl in_X11 (Nat.le_of_ble_eq_true rfl) rfl rfl fl_X11_42 dX11_text_22 (fun (v6 : Int) (hv6 : 0 ≤ v6) => ?_)
    refine j_iconst dX11_text_25 ?_
    refine j_puti (ci := 9) (k := 0) (ty0 := tyX9) rfl in_X9 (Nat.le_of_ble_eq_true rfl) rfl tyX9_ok nmX9 rfl rfl (by decide +kernel) (jZ_R jz0) fl_X11_124 dX11_text_26 (fun S7 => ?_)
    refine j_iload_n 0 dX11_text_29 rfl rfl ?_
    refine j_if_ne (tgt := 35) (jZ_R hv4) dX11_text_30 rfl (fun _ => ?_) (fun _ => ?_)
    · refine j_aload_n 1 dX11_text_35 rfl rfl ?_
      refine j_getr (ci := 11) (k := 0) rfl in_X11 (Nat.le_of_ble_eq_true rfl) rfl rfl fl_X11_10 dX11_text_36 (fun (v8 : Int) (hv8 : 0 ≤ v8) => ?_)
      refine j_getr (ci := 10) (k := 5) rfl in_X10 (Nat.le_of_ble_eq_true rfl) rfl rfl fl_X11_138 dX11_text_39 (fun (v9 : Int) (hv9 : 0 ≤ v9) => ?_)
      refine j_aload_n 1 dX11_text_42 rfl rfl ?_
      refine j_getr (ci := 11) (k := 0) rfl in_X11 (Nat.le_of_ble_eq_true rfl) rfl rfl fl_X11_10 dX11_text_43 (fun (v10 : Int) (hv10 : 0 ≤ v10) => ?_)
      refine j_get (ci := 10) (k := 4) (t := 0) rfl in_X10 (Nat.le_of_ble_eq_true rfl) rfl rfl fl_X11_131 dX11_text_46 (fun (v11 : Int) (hv11 : R32 (v11)) => ?_)
      refine j_aload_n 1 dX11_text_49 rfl rfl ?_
      refine j_getr (ci := 11) (k := 7) rfl in_X11 (Nat.le_of_ble_eq_true rfl) rfl rfl fl_X11_51 dX11_text_50 (fun (v12 : Int) (hv12 : 0 ≤ v12) => ?_)
      refine j_callV (ci := 4) (As := []) (st := [(0, v11), (2, v9)]) kc_X4_script (c_X4_script v12 S7 hv12) rfl lm_X11_142 ki_X4_script ke_X4_script rfl (Nat.le_of_ble_eq_true rfl) (Nat.le_trans (m := 108) (Nat.le_of_ble_eq_true rfl) hd0) dX11_text_53 (fun v13 S14 _ => ?_)
      refine j_aastore5 hv11 dX11_text_56 (fun S15 => ?_)
      refine j_aload_n 1 dX11_text_57 rfl rfl ?_
      refine j_getr (ci := 11) (k := 0) rfl in_X11 (Nat.le_of_ble_eq_true rfl) rfl rfl fl_X11_10 dX11_text_58 (fun (v16 : Int) (hv16 : 0 ≤ v16) => ?_)
      refine j_dup dX11_text_61 (fun h => nomatch h) ?_
      refine j_get (ci := 10) (k := 4) (t := 0) rfl in_X10 (Nat.le_of_ble_eq_true rfl) rfl rfl fl_X11_131 dX11_text_62 (fun (v17 : Int) (hv17 : R32 (v17)) => ?_)
      refine j_iconst dX11_text_65 ?_
      refine j_iadd dX11_text_66 ?_
      refine j_puti (ci := 10) (k := 4) (ty0 := tyX10) rfl in_X10 (Nat.le_of_ble_eq_true rfl) rfl tyX10_ok nmX10 rfl rfl (by decide +kernel) (w32_R _) fl_X11_131 dX11_text_67 (fun S18 => ?_)
      refine j_aload_n 1 dX11_text_70 rfl rfl ?_
      refine j_getr (ci := 11) (k := 0) rfl in_X11 (Nat.le_of_ble_eq_true rfl) rfl rfl fl_X11_10 dX11_text_71 (fun (v19 : Int) (hv19 : 0 ≤ v19) => ?_)
      refine j_get (ci := 10) (k := 4) (t := 0) rfl in_X10 (Nat.le_of_ble_eq_true rfl) rfl rfl fl_X11_131 dX11_text_74 (fun (v20 : Int) (hv20 : R32 (v20)) => ?_)
      refine j_iconst dX11_text_77 ?_
      refine j_isub dX11_text_78 ?_
      exact j_ireturn (w32_R _) dX11_text_79
    · refine j_iconst dX11_text_33 ?_
      exact j_ireturn (j_r32 (-1) rfl) dX11_text_34
  · refine j_iconst dX11_text_11 ?_
    exact j_ireturn (j_r32 (-1) rfl) dX11_text_12
theorem c_X11_text {G : jG} (a0 : Int) (S : jSt) (h0 : 0 ≤ (a0)) : CT G yX11_text cX11_text 2 (some .int) 108 ([(2, a0)].map jval) S (f_X11_text a0 S) := ct_of [(2, a0)] (by decide) rfl (Nat.le_of_ble_eq_true rfl) (e_X11_text (Nat.le_refl _) a0 S h0)
-- X8_pop
def f_X8_pop (a0 : Int) (a1 : Int) (S : jSt) : Option (Int × jSt) :=
  fget S a0 8 2 (fun v1 => if v1 = 0 then some (0, S) else fget S a0 8 2 (fun v2 => fput S a0 8 2 (w32 (v2 - 1)) (fun S3 => fgetr S3 a0 8 0 (fun v4 => fget S3 a0 8 1 (fun v5 => fget S3 a0 8 2 (fun v6 => if 30 = 0 then none else fald S3 v4 (irem32 (w32 (v5 + v6)) 30) 4 (fun v7 => if 0 ≤ v7 then fcallv S3 a1 1 (f_X1_copyFrom a1 v7 S3) (fun v8 S9 => some (1, S9)) else none)))))))
theorem e_X8_pop {G : jG} {d : Nat} {S0 : jSt} (hd0 : 2 ≤ d) (a0 : Int) (a1 : Int) (S : jSt) (h0 : 0 ≤ (a0)) (h1 : 0 ≤ (a1)) : J G yX8_pop cX8_pop 2 (some .boolean) d S0 0 [(0, 2, a0), (1, 2, a1)] [] S (f_X8_pop a0 a1 S) := by
  unfold f_X8_pop
  refine j_aload_n 0 dX8_pop_0 rfl rfl ?_
  refine j_get (ci := 8) (k := 2) (t := 0) rfl in_X8 (Nat.le_of_ble_eq_true rfl) rfl rfl fl_X8_22 dX8_pop_1 (fun (v1 : Int) (hv1 : R32 (v1)) => ?_)
  refine j_if_ne (tgt := 9) hv1 dX8_pop_4 rfl (fun _ => ?_) (fun _ => ?_)
  · refine j_aload_n 0 dX8_pop_9 rfl rfl ?_
    refine j_dup dX8_pop_10 (fun h => nomatch h) ?_
    refine j_get (ci := 8) (k := 2) (t := 0) rfl in_X8 (Nat.le_of_ble_eq_true rfl) rfl rfl fl_X8_22 dX8_pop_11 (fun (v2 : Int) (hv2 : R32 (v2)) => ?_)
    refine j_iconst dX8_pop_14 ?_
    refine j_isub dX8_pop_15 ?_
    refine j_puti (ci := 8) (k := 2) (ty0 := tyX8) rfl in_X8 (Nat.le_of_ble_eq_true rfl) rfl tyX8_ok nmX8 rfl rfl (by decide +kernel) (w32_R _) fl_X8_22 dX8_pop_16 (fun S3 => ?_)
    refine j_aload_n 1 dX8_pop_19 rfl rfl ?_
    refine j_aload_n 0 dX8_pop_20 rfl rfl ?_
    refine j_getr (ci := 8) (k := 0) rfl in_X8 (Nat.le_of_ble_eq_true rfl) rfl rfl fl_X8_11 dX8_pop_21 (fun (v4 : Int) (hv4 : 0 ≤ v4) => ?_)
    refine j_aload_n 0 dX8_pop_24 rfl rfl ?_
    refine j_get (ci := 8) (k := 1) (t := 0) rfl in_X8 (Nat.le_of_ble_eq_true rfl) rfl rfl fl_X8_18 dX8_pop_25 (fun (v5 : Int) (hv5 : R32 (v5)) => ?_)
    refine j_aload_n 0 dX8_pop_28 rfl rfl ?_
    refine j_get (ci := 8) (k := 2) (t := 0) rfl in_X8 (Nat.le_of_ble_eq_true rfl) rfl rfl fl_X8_22 dX8_pop_29 (fun (v6 : Int) (hv6 : R32 (v6)) => ?_)
    refine j_iadd dX8_pop_32 ?_
    refine j_bipush dX8_pop_33 (by decide) ?_
    refine j_irem (j_r32 30 rfl) dX8_pop_35 ?_
    refine j_aaload4 (irem32_R _ _) dX8_pop_36 (fun v7 => ?_)
    refine j_cast (z := v7) (st' := [(2, v7), (2, a1)]) (fun h => by simp only [List.map_cons, jpush, jtag, jval3r h]) (fun hq36 => ?_)
    refine j_callV (ci := 1) (As := [(2, v7)]) (st := []) kc_X1_copyFrom (c_X1_copyFrom a1 v7 S3 h1 hq36) rfl lm_X8_25 ki_X1_copyFrom ke_X1_copyFrom rfl (Nat.le_of_ble_eq_true rfl) (Nat.le_trans (m := 2) (Nat.le_of_ble_eq_true rfl) hd0) dX8_pop_37 (fun v8 S9 _ => ?_)
    refine j_iconst dX8_pop_40 ?_
    exact j_zreturn jz1 dX8_pop_41
  · refine j_iconst dX8_pop_7 ?_
    exact j_zreturn jz0 dX8_pop_8
theorem c_X8_pop {G : jG} (a0 : Int) (a1 : Int) (S : jSt) (h0 : 0 ≤ (a0)) (h1 : 0 ≤ (a1)) : CT G yX8_pop cX8_pop 2 (some .boolean) 2 ([(2, a0), (2, a1)].map jval) S (f_X8_pop a0 a1 S) := ct_of [(2, a0), (2, a1)] (by decide) rfl (Nat.le_of_ble_eq_true rfl) (e_X8_pop (Nat.le_refl _) a0 a1 S h0 h1)
-- X11_undo
def f_X11_undo_b25 (x0 : Int) (S : jSt) : Option (Int × jSt) :=
  some (x0, S)
theorem p_f_X11_undo_b25 {G : jG} {d : Nat} {S0 : jSt} (hd0 : 3 ≤ d) : ∀ (x0 : Int) (S : jSt), (R32 (x0)) → J G yX11_undo cX11_undo 1 (some .int) d S0 25 [] [(0, x0)] S (f_X11_undo_b25  x0 S) := by
  intro x0 S h0
  unfold f_X11_undo_b25
  exact j_ireturn h0 dX11_undo_25
def f_X11_undo (a0 : Int) (S : jSt) : Option (Int × jSt) :=
  fgetr S a0 11 2 (fun v1 => fgetr S a0 11 1 (fun v2 => fcallv S v1 8 (f_X8_pop v1 v2 S) (fun v3 S4 => if v3 = 0 then f_X11_undo_b25 (-1) S4 else fgetr S4 a0 11 2 (fun v5 => fget S4 v5 8 2 (fun v6 => f_X11_undo_b25 v6 S4)))))
theorem e_X11_undo {G : jG} {d : Nat} {S0 : jSt} (hd0 : 3 ≤ d) (a0 : Int) (S : jSt) (h0 : 0 ≤ (a0)) : J G yX11_undo cX11_undo 1 (some .int) d S0 0 [(0, 2, a0)] [] S (f_X11_undo a0 S) := by
  unfold f_X11_undo
  refine j_aload_n 0 dX11_undo_0 rfl rfl ?_
  refine j_getr (ci := 11) (k := 2) rfl in_X11 (Nat.le_of_ble_eq_true rfl) rfl rfl fl_X11_26 dX11_undo_1 (fun (v1 : Int) (hv1 : 0 ≤ v1) => ?_)
  refine j_aload_n 0 dX11_undo_4 rfl rfl ?_
  refine j_getr (ci := 11) (k := 1) rfl in_X11 (Nat.le_of_ble_eq_true rfl) rfl rfl fl_X11_19 dX11_undo_5 (fun (v2 : Int) (hv2 : 0 ≤ v2) => ?_)
  refine j_callV (ci := 8) (As := [(2, v2)]) (st := []) kc_X8_pop (c_X8_pop v1 v2 S hv1 hv2) rfl lm_X11_219 ki_X8_pop ke_X8_pop rfl (Nat.le_of_ble_eq_true rfl) (Nat.le_trans (m := 3) (Nat.le_of_ble_eq_true rfl) hd0) dX11_undo_8 (fun (v3 : Int) (S4 : jSt) (hv3 : (v3) = 0 ∨ (v3) = 1) => ?_)
  refine j_if_eq (tgt := 24) (jZ_R hv3) dX11_undo_11 rfl (fun _ => ?_) (fun _ => ?_)
  · refine j_iconst dX11_undo_24 ?_
    refine j_sub [] rfl ?_
    exact p_f_X11_undo_b25 hd0 (-1) S4 (j_r32 (-1) rfl)
  · refine j_aload_n 0 dX11_undo_14 rfl rfl ?_
    refine j_getr (ci := 11) (k := 2) rfl in_X11 (Nat.le_of_ble_eq_true rfl) rfl rfl fl_X11_26 dX11_undo_15 (fun (v5 : Int) (hv5 : 0 ≤ v5) => ?_)
    refine j_get (ci := 8) (k := 2) (t := 0) rfl in_X8 (Nat.le_of_ble_eq_true rfl) rfl rfl fl_X11_223 dX11_undo_18 (fun (v6 : Int) (hv6 : R32 (v6)) => ?_)
    refine j_goto (tgt := 25) dX11_undo_21 rfl ?_
    refine j_sub [] rfl ?_
    exact p_f_X11_undo_b25 hd0 v6 S4 hv6
theorem c_X11_undo {G : jG} (a0 : Int) (S : jSt) (h0 : 0 ≤ (a0)) : CT G yX11_undo cX11_undo 1 (some .int) 3 ([(2, a0)].map jval) S (f_X11_undo a0 S) := ct_of [(2, a0)] (by decide) rfl (Nat.le_of_ble_eq_true rfl) (e_X11_undo (Nat.le_refl _) a0 S h0)
-- X11_week
def f_X11_week_b25 (S : jSt) : Option (Int × jSt) :=
  some ((-1), S)
theorem p_f_X11_week_b25 {G : jG} {d : Nat} {S0 : jSt} (hd0 : 7 ≤ d) : ∀ (S : jSt), J G yX11_week cX11_week 2 (some .int) d S0 25 [] [] S (f_X11_week_b25   S) := by
  intro S
  unfold f_X11_week_b25
  refine j_iconst dX11_week_25 ?_
  exact j_ireturn (j_r32 (-1) rfl) dX11_week_26
def f_X11_week (a0 : Int) (a1 : Int) (S : jSt) : Option (Int × jSt) :=
  fcall (f_X11_within a1 1 60 S) (fun v1 S2 => if v1 = 0 then f_X11_week_b25 S2 else fgetr S2 a0 11 1 (fun v3 => fget S2 v3 1 7 (fun v4 => if (w32 (v4 + a1)) ≤ 9999 then fcallv S2 a0 11 (f_X11_passWeeks a0 a1 S2) (fun v5 S6 => some (v5, S6)) else f_X11_week_b25 S2)))
theorem e_X11_week {G : jG} {d : Nat} {S0 : jSt} (hd0 : 7 ≤ d) (a0 : Int) (a1 : Int) (S : jSt) (h0 : 0 ≤ (a0)) (h1 : R32 (a1)) : J G yX11_week cX11_week 2 (some .int) d S0 0 [(0, 2, a0), (1, 0, a1)] [] S (f_X11_week a0 a1 S) := by
  unfold f_X11_week
  refine j_iload_n 1 dX11_week_0 rfl rfl ?_
  refine j_iconst dX11_week_1 ?_
  refine j_bipush dX11_week_2 (by decide) ?_
  refine j_callS (As := [(0, a1), (0, 1), (0, 60)]) (st := []) kc_X11_within (c_X11_within a1 1 60 S h1 (jZ_R jz1) (j_r32 60 rfl)) lm_X11_76 ks_X11_within rfl (Nat.le_of_ble_eq_true rfl) (Nat.le_trans (m := 7) (Nat.le_of_ble_eq_true rfl) hd0) dX11_week_4 (fun (v1 : Int) (S2 : jSt) (hv1 : (v1) = 0 ∨ (v1) = 1) => ?_)
  refine j_if_eq (tgt := 25) (jZ_R hv1) dX11_week_7 rfl (fun _ => ?_) (fun _ => ?_)
  · refine j_sub [] rfl ?_
    exact p_f_X11_week_b25 hd0 S2
  · refine j_aload_n 0 dX11_week_10 rfl rfl ?_
    refine j_getr (ci := 11) (k := 1) rfl in_X11 (Nat.le_of_ble_eq_true rfl) rfl rfl fl_X11_19 dX11_week_11 (fun (v3 : Int) (hv3 : 0 ≤ v3) => ?_)
    refine j_get (ci := 1) (k := 7) (t := 0) rfl in_X1 (Nat.le_of_ble_eq_true rfl) rfl rfl fl_X11_193 dX11_week_14 (fun (v4 : Int) (hv4 : R32 (v4)) => ?_)
    refine j_iload_n 1 dX11_week_17 rfl rfl ?_
    refine j_iadd dX11_week_18 ?_
    refine j_sipush dX11_week_19 (by decide) ?_
    refine j_icmp_le (tgt := 27) (w32_R _) (j_r32 9999 rfl) dX11_week_22 rfl (fun _ => ?_) (fun _ => ?_)
    · refine j_aload_n 0 dX11_week_27 rfl rfl ?_
      refine j_iload_n 1 dX11_week_28 rfl rfl ?_
      refine j_callV (ci := 11) (As := [(0, a1)]) (st := []) kc_X11_passWeeks (c_X11_passWeeks a0 a1 S2 h0 h1) rfl lm_X11_196 ki_X11_passWeeks ke_X11_passWeeks rfl (Nat.le_of_ble_eq_true rfl) (Nat.le_trans (m := 7) (Nat.le_of_ble_eq_true rfl) hd0) dX11_week_29 (fun (v5 : Int) (S6 : jSt) (hv5 : R32 (v5)) => ?_)
      exact j_ireturn hv5 dX11_week_32
    · refine j_sub [] rfl ?_
      exact p_f_X11_week_b25 hd0 S2
theorem c_X11_week {G : jG} (a0 : Int) (a1 : Int) (S : jSt) (h0 : 0 ≤ (a0)) (h1 : R32 (a1)) : CT G yX11_week cX11_week 2 (some .int) 7 ([(2, a0), (0, a1)].map jval) S (f_X11_week a0 a1 S) := ct_of [(2, a0), (0, a1)] (by decide) rfl (Nat.le_of_ble_eq_true rfl) (e_X11_week (Nat.le_refl _) a0 a1 S h0 h1)
-- X11_whose
def f_X11_whose_b36 (r4 : Int → Int → Int → jSt → Option (Int × jSt)) (x0 : Int) (x1 : Int) (x2 : Int) (S : jSt) : Option (Int × jSt) :=
  flet (w32 (x2 + 1)) (fun v8 => r4 x0 x1 v8 S)
theorem p_f_X11_whose_b36 {G : jG} {d : Nat} {S0 : jSt} (hd0 : 5 ≤ d) {r4 : Int → Int → Int → jSt → Option (Int × jSt)} (k4 : ∀ (x0 : Int) (x1 : Int) (x2 : Int) (S : jSt), (0 ≤ (x0)) → (R32 (x1)) → (R32 (x2)) → J G yX11_whose cX11_whose 3 (some .int) d S0 4 [(0, 2, x0), (1, 0, x1), (2, 0, x2)] [] S (r4 x0 x1 x2 S)) : ∀ (x0 : Int) (x1 : Int) (x2 : Int) (S : jSt), (0 ≤ (x0)) → (R32 (x1)) → (R32 (x2)) → J G yX11_whose cX11_whose 3 (some .int) d S0 36 [(0, 2, x0), (1, 0, x1), (2, 0, x2)] [] S (f_X11_whose_b36 r4 x0 x1 x2 S) := by
  intro x0 x1 x2 S h0 h1 h2
  unfold f_X11_whose_b36
  refine j_iincL (q := 2) dX11_whose_36 rfl (Nat.le_of_ble_eq_true rfl) (fun v8 hv8 => ?_)
  refine j_lv (lv' := [(2, 0, v8), (0, 2, x0), (1, 0, x1)]) rfl ?_
  refine j_goto (tgt := 4) dX11_whose_39 rfl ?_
  refine j_sub [1, 2, 0] rfl ?_
  exact k4 x0 x1 v8 S h0 h1 hv8
def f_X11_whose_b4B (r4 : Int → Int → Int → jSt → Option (Int × jSt)) (x0 : Int) (x1 : Int) (x2 : Int) (S : jSt) : Option (Int × jSt) :=
  fgetr S x0 11 0 (fun v1 => fget S v1 10 4 (fun v2 => if v2 ≤ x2 then some (x1, S) else fgetr S x0 11 0 (fun v3 => fcallv S v3 10 (f_X10_scriptOf v3 x2 S) (fun v4 S5 => fcallv S5 x0 11 (f_X11_saysAll x0 v4 S5) (fun v6 S7 => if v6 = 0 then f_X11_whose_b36 r4 x0 x1 x2 S7 else flet (ior32 x1 (ishl32 1 x2)) (fun v9 => f_X11_whose_b36 r4 x0 v9 x2 S7))))))
theorem p_f_X11_whose_b4B {G : jG} {d : Nat} {S0 : jSt} (hd0 : 5 ≤ d) {r4 : Int → Int → Int → jSt → Option (Int × jSt)} (k4 : ∀ (x0 : Int) (x1 : Int) (x2 : Int) (S : jSt), (0 ≤ (x0)) → (R32 (x1)) → (R32 (x2)) → J G yX11_whose cX11_whose 3 (some .int) d S0 4 [(0, 2, x0), (1, 0, x1), (2, 0, x2)] [] S (r4 x0 x1 x2 S)) : ∀ (x0 : Int) (x1 : Int) (x2 : Int) (S : jSt), (0 ≤ (x0)) → (R32 (x1)) → (R32 (x2)) → J G yX11_whose cX11_whose 3 (some .int) d S0 4 [(0, 2, x0), (1, 0, x1), (2, 0, x2)] [] S (f_X11_whose_b4B r4 x0 x1 x2 S) := by
  intro x0 x1 x2 S h0 h1 h2
  unfold f_X11_whose_b4B
  refine j_iload_n 2 dX11_whose_4 rfl rfl ?_
  refine j_aload_n 0 dX11_whose_5 rfl rfl ?_
  refine j_getr (ci := 11) (k := 0) rfl in_X11 (Nat.le_of_ble_eq_true rfl) rfl rfl fl_X11_10 dX11_whose_6 (fun (v1 : Int) (hv1 : 0 ≤ v1) => ?_)
  refine j_get (ci := 10) (k := 4) (t := 0) rfl in_X10 (Nat.le_of_ble_eq_true rfl) rfl rfl fl_X11_131 dX11_whose_9 (fun (v2 : Int) (hv2 : R32 (v2)) => ?_)
  refine j_icmp_ge (tgt := 42) h2 hv2 dX11_whose_12 rfl (fun _ => ?_) (fun _ => ?_)
  · refine j_iload_n 1 dX11_whose_42 rfl rfl ?_
    exact j_ireturn h1 dX11_whose_43
  · refine j_aload_n 0 dX11_whose_15 rfl rfl ?_
    refine j_aload_n 0 dX11_whose_16 rfl rfl ?_
    refine j_getr (ci := 11) (k := 0) rfl in_X11 (Nat.le_of_ble_eq_true rfl) rfl rfl fl_X11_10 dX11_whose_17 (fun (v3 : Int) (hv3 : 0 ≤ v3) => ?_)
    refine j_iload_n 2 dX11_whose_20 rfl rfl ?_
    refine j_callV (ci := 10) (As := [(0, x2)]) (st := [(2, x0)]) kc_X10_scriptOf (c_X10_scriptOf v3 x2 S hv3 h2) rfl lm_X11_200 ki_X10_scriptOf ke_X10_scriptOf rfl (Nat.le_of_ble_eq_true rfl) (Nat.le_trans (m := 5) (Nat.le_of_ble_eq_true rfl) hd0) dX11_whose_21 (fun v4 S5 _ => ?_)
    refine j_callV (ci := 11) (As := [(3, v4)]) (st := []) kc_X11_saysAll (c_X11_saysAll x0 v4 S5 h0) rfl lm_X11_413 ki_X11_saysAll ke_X11_saysAll rfl (Nat.le_of_ble_eq_true rfl) (Nat.le_trans (m := 5) (Nat.le_of_ble_eq_true rfl) hd0) dX11_whose_24 (fun (v6 : Int) (S7 : jSt) (hv6 : (v6) = 0 ∨ (v6) = 1) => ?_)
    refine j_if_eq (tgt := 36) (jZ_R hv6) dX11_whose_27 rfl (fun _ => ?_) (fun _ => ?_)
    · exact p_f_X11_whose_b36 hd0 k4 x0 x1 x2 S7 h0 h1 h2
    · refine j_iload_n 1 dX11_whose_30 rfl rfl ?_
      refine j_iconst dX11_whose_31 ?_
      refine j_iload_n 2 dX11_whose_32 rfl rfl ?_
      refine j_ishl dX11_whose_33 ?_
      refine j_ior dX11_whose_34 ?_
      refine j_leti (ior32_R _ _) (fun v9 hv9 => ?_)
      refine j_istore_n (lv' := [(1, 0, v9), (0, 2, x0), (2, 0, x2)]) dX11_whose_35 rfl (Nat.le_of_ble_eq_true rfl) rfl ?_
      refine j_sub [1, 0, 2] rfl ?_
      exact p_f_X11_whose_b36 hd0 k4 x0 v9 x2 S7 h0 hv9 h2
def f_X11_whose_b4 : Int → Int → Int → jSt → Option (Int × jSt) := jrep (β := Int → Int → Int → jSt → Option (Int × jSt)) (fun _ _ _ _ => none) (fun r => f_X11_whose_b4B r) jN
theorem p_f_X11_whose_b4 {G : jG} {d : Nat} {S0 : jSt} (hd0 : 5 ≤ d) : ∀ (x0 : Int) (x1 : Int) (x2 : Int) (S : jSt), (0 ≤ (x0)) → (R32 (x1)) → (R32 (x2)) → J G yX11_whose cX11_whose 3 (some .int) d S0 4 [(0, 2, x0), (1, 0, x1), (2, 0, x2)] [] S (f_X11_whose_b4  x0 x1 x2 S) :=
  jrep_ind (P := fun (r : Int → Int → Int → jSt → Option (Int × jSt)) => ∀ (x0 : Int) (x1 : Int) (x2 : Int) (S : jSt), (0 ≤ (x0)) → (R32 (x1)) → (R32 (x2)) → J G yX11_whose cX11_whose 3 (some .int) d S0 4 [(0, 2, x0), (1, 0, x1), (2, 0, x2)] [] S (r x0 x1 x2 S)) (by intros; exact j_none) (fun r k => p_f_X11_whose_b4B hd0 k) jN
def f_X11_whose (a0 : Int) (S : jSt) : Option (Int × jSt) :=
  f_X11_whose_b4 a0 0 0 S
theorem e_X11_whose {G : jG} {d : Nat} {S0 : jSt} (hd0 : 5 ≤ d) (a0 : Int) (S : jSt) (h0 : 0 ≤ (a0)) : J G yX11_whose cX11_whose 3 (some .int) d S0 0 [(0, 2, a0)] [] S (f_X11_whose a0 S) := by
  unfold f_X11_whose
  refine j_iconst dX11_whose_0 ?_
  refine j_istore_n (lv' := [(1, 0, 0), (0, 2, a0)]) dX11_whose_1 rfl (Nat.le_of_ble_eq_true rfl) rfl ?_
  refine j_iconst dX11_whose_2 ?_
  refine j_istore_n (lv' := [(2, 0, 0), (1, 0, 0), (0, 2, a0)]) dX11_whose_3 rfl (Nat.le_of_ble_eq_true rfl) rfl ?_
  refine j_sub [2, 1, 0] rfl ?_
  exact p_f_X11_whose_b4 hd0 a0 0 0 S h0 (jZ_R jz0) (jZ_R jz0)
theorem c_X11_whose {G : jG} (a0 : Int) (S : jSt) (h0 : 0 ≤ (a0)) : CT G yX11_whose cX11_whose 3 (some .int) 5 ([(2, a0)].map jval) S (f_X11_whose a0 S) := ct_of [(2, a0)] (by decide) rfl (Nat.le_of_ble_eq_true rfl) (e_X11_whose (Nat.le_refl _) a0 S h0)
-- X11_winners
def f_X11_winners_b26 (x0 : Int) (S : jSt) : Option (Int × jSt) :=
  some (x0, S)
theorem p_f_X11_winners_b26 {G : jG} {d : Nat} {S0 : jSt} (hd0 : 3 ≤ d) : ∀ (x0 : Int) (S : jSt), (R32 (x0)) → J G yX11_winners cX11_winners 3 (some .int) d S0 26 [] [(0, x0)] S (f_X11_winners_b26  x0 S) := by
  intro x0 S h0
  unfold f_X11_winners_b26
  exact j_ireturn h0 dX11_winners_26
def f_X11_winners (a0 : Int) (a1 : Int) (S : jSt) : Option (Int × jSt) :=
  fgetr S a0 11 9 (fun v1 => fcallv S v1 0 (f_X0_bestBundles v1 (-1) S) (fun v2 S3 => if a1 = 0 then f_X11_winners_b26 v2 S3 else fgetr S3 a0 11 9 (fun v4 => fcallv S3 v4 0 (f_X0_pricesOf v4 v2 (-1) S3) (fun v5 S6 => f_X11_winners_b26 v5 S6))))
theorem e_X11_winners {G : jG} {d : Nat} {S0 : jSt} (hd0 : 3 ≤ d) (a0 : Int) (a1 : Int) (S : jSt) (h0 : 0 ≤ (a0)) (h1 : (a1) = 0 ∨ (a1) = 1) : J G yX11_winners cX11_winners 3 (some .int) d S0 0 [(0, 2, a0), (1, 0, a1)] [] S (f_X11_winners a0 a1 S) := by
  unfold f_X11_winners
  refine j_aload_n 0 dX11_winners_0 rfl rfl ?_
  refine j_getr (ci := 11) (k := 9) rfl in_X11 (Nat.le_of_ble_eq_true rfl) rfl rfl fl_X11_69 dX11_winners_1 (fun (v1 : Int) (hv1 : 0 ≤ v1) => ?_)
  refine j_iconst dX11_winners_4 ?_
  refine j_callV (ci := 0) (As := [(0, (-1))]) (st := []) kc_X0_bestBundles (c_X0_bestBundles v1 (-1) S hv1 (j_r32 (-1) rfl)) rfl lm_X11_326 ki_X0_bestBundles ke_X0_bestBundles rfl (Nat.le_of_ble_eq_true rfl) (Nat.le_trans (m := 3) (Nat.le_of_ble_eq_true rfl) hd0) dX11_winners_5 (fun (v2 : Int) (S3 : jSt) (hv2 : R32 (v2)) => ?_)
  refine j_istore_n (lv' := [(2, 0, v2), (0, 2, a0), (1, 0, a1)]) dX11_winners_8 rfl (Nat.le_of_ble_eq_true rfl) rfl ?_
  refine j_iload_n 2 dX11_winners_9 rfl rfl ?_
  refine j_if_eq (tgt := 25) (jZ_R h1) dX11_winners_10 rfl (fun _ => ?_) (fun _ => ?_)
  · refine j_iload_n 0 dX11_winners_25 rfl rfl ?_
    refine j_sub [] rfl ?_
    exact p_f_X11_winners_b26 hd0 v2 S3 hv2
  · refine j_aload_n 1 dX11_winners_13 rfl rfl ?_
    refine j_getr (ci := 11) (k := 9) rfl in_X11 (Nat.le_of_ble_eq_true rfl) rfl rfl fl_X11_69 dX11_winners_14 (fun (v4 : Int) (hv4 : 0 ≤ v4) => ?_)
    refine j_iload_n 0 dX11_winners_17 rfl rfl ?_
    refine j_iconst dX11_winners_18 ?_
    refine j_callV (ci := 0) (As := [(0, v2), (0, (-1))]) (st := []) kc_X0_pricesOf (c_X0_pricesOf v4 v2 (-1) S3 hv4 hv2 (j_r32 (-1) rfl)) rfl lm_X11_329 ki_X0_pricesOf ke_X0_pricesOf rfl (Nat.le_of_ble_eq_true rfl) (Nat.le_trans (m := 3) (Nat.le_of_ble_eq_true rfl) hd0) dX11_winners_19 (fun (v5 : Int) (S6 : jSt) (hv5 : R32 (v5)) => ?_)
    refine j_goto (tgt := 26) dX11_winners_22 rfl ?_
    refine j_sub [] rfl ?_
    exact p_f_X11_winners_b26 hd0 v5 S6 hv5
theorem c_X11_winners {G : jG} (a0 : Int) (a1 : Int) (S : jSt) (h0 : 0 ≤ (a0)) (h1 : (a1) = 0 ∨ (a1) = 1) : CT G yX11_winners cX11_winners 3 (some .int) 3 ([(2, a0), (0, a1)].map jval) S (f_X11_winners a0 a1 S) := ct_of [(2, a0), (0, a1)] (by decide) rfl (Nat.le_of_ble_eq_true rfl) (e_X11_winners (Nat.le_refl _) a0 a1 S h0 h1)
-- X5_drawYear
def f_X5_drawYear_b175 (S : jSt) : Option (Int × jSt) :=
  some (0, S)
theorem p_f_X5_drawYear_b175 {G : jG} {d : Nat} {S0 : jSt} (hd0 : 6 ≤ d) : ∀ (S : jSt), J G yX5_drawYear cX5_drawYear 5 none d S0 175 [] [] S (f_X5_drawYear_b175   S) := by
  intro S
  unfold f_X5_drawYear_b175
  exact j_return dX5_drawYear_175
def f_X5_drawYear_b139 (x0 : Int) (x1 : Int) (x2 : Int) (x3 : Int) (x4 : Int) (S : jSt) : Option (Int × jSt) :=
  if x3 = 3 then if 30 = 0 then none else fcallv S x0 5 (f_X5_canBuyBack x0 x1 x4 (w32 (20 + (irem32 x2 30))) S) (fun v9 S10 => if v9 = 0 then f_X5_drawYear_b175 S10 else if 30 = 0 then none else fcallv S10 x0 5 (f_X5_buyBack x0 x1 x4 (w32 (20 + (irem32 x2 30))) S10) (fun v11 S12 => f_X5_drawYear_b175 S12)) else f_X5_drawYear_b175 S
theorem p_f_X5_drawYear_b139 {G : jG} {d : Nat} {S0 : jSt} (hd0 : 6 ≤ d) : ∀ (x0 : Int) (x1 : Int) (x2 : Int) (x3 : Int) (x4 : Int) (S : jSt), (0 ≤ (x0)) → (0 ≤ (x1)) → (R32 (x2)) → (R32 (x3)) → (R32 (x4)) → J G yX5_drawYear cX5_drawYear 5 none d S0 139 [(0, 2, x0), (1, 2, x1), (2, 0, x2), (3, 0, x3), (4, 0, x4)] [] S (f_X5_drawYear_b139  x0 x1 x2 x3 x4 S) := by
  intro x0 x1 x2 x3 x4 S h0 h1 h2 h3 h4
  unfold f_X5_drawYear_b139
  refine j_iload_n 3 dX5_drawYear_139 rfl rfl ?_
  refine j_iconst dX5_drawYear_140 ?_
  refine j_icmp_ne (tgt := 175) h3 (j_r32 3 rfl) dX5_drawYear_141 rfl (fun _ => ?_) (fun _ => ?_)
  · refine j_sub [] rfl ?_
    exact p_f_X5_drawYear_b175 hd0 S
  · refine j_aload_n 0 dX5_drawYear_144 rfl rfl ?_
    refine j_aload_n 1 dX5_drawYear_145 rfl rfl ?_
    refine j_iload 4 dX5_drawYear_146 rfl ?_
    refine j_bipush dX5_drawYear_148 (by decide) ?_
    refine j_iload_n 2 dX5_drawYear_150 rfl rfl ?_
    refine j_bipush dX5_drawYear_151 (by decide) ?_
    refine j_irem (j_r32 30 rfl) dX5_drawYear_153 ?_
    refine j_iadd dX5_drawYear_154 ?_
    refine j_callV (ci := 5) (As := [(2, x1), (0, x4), (0, w32 (20 + (irem32 x2 30)))]) (st := []) kc_X5_canBuyBack (c_X5_canBuyBack x0 x1 x4 (w32 (20 + (irem32 x2 30))) S h0 h1 h4 (w32_R _)) rfl lm_X5_151 ki_X5_canBuyBack ke_X5_canBuyBack rfl (Nat.le_of_ble_eq_true rfl) (Nat.le_trans (m := 6) (Nat.le_of_ble_eq_true rfl) hd0) dX5_drawYear_155 (fun (v9 : Int) (S10 : jSt) (hv9 : (v9) = 0 ∨ (v9) = 1) => ?_)
    refine j_if_eq (tgt := 175) (jZ_R hv9) dX5_drawYear_158 rfl (fun _ => ?_) (fun _ => ?_)
    · refine j_sub [] rfl ?_
      exact p_f_X5_drawYear_b175 hd0 S10
    · refine j_aload_n 0 dX5_drawYear_161 rfl rfl ?_
      refine j_aload_n 1 dX5_drawYear_162 rfl rfl ?_
      refine j_iload 4 dX5_drawYear_163 rfl ?_
      refine j_bipush dX5_drawYear_165 (by decide) ?_
      refine j_iload_n 2 dX5_drawYear_167 rfl rfl ?_
      refine j_bipush dX5_drawYear_168 (by decide) ?_
      refine j_irem (j_r32 30 rfl) dX5_drawYear_170 ?_
      refine j_iadd dX5_drawYear_171 ?_
      refine j_callV (ci := 5) (As := [(2, x1), (0, x4), (0, w32 (20 + (irem32 x2 30)))]) (st := []) kc_X5_buyBack (c_X5_buyBack x0 x1 x4 (w32 (20 + (irem32 x2 30))) S10 h0 h1 h4 (w32_R _)) rfl lm_X5_155 ki_X5_buyBack ke_X5_buyBack rfl (Nat.le_of_ble_eq_true rfl) (Nat.le_trans (m := 6) (Nat.le_of_ble_eq_true rfl) hd0) dX5_drawYear_172 (fun v11 S12 _ => ?_)
      refine j_sub [] rfl ?_
      exact p_f_X5_drawYear_b175 hd0 S12
def f_X5_drawYear_b105 (x0 : Int) (x1 : Int) (x2 : Int) (x3 : Int) (x4 : Int) (S : jSt) : Option (Int × jSt) :=
  if x3 = 2 then if 8 = 0 then none else if (irem32 x2 8) = 2 then fcallv S x0 5 (f_X5_canBurn x0 x1 x4 S) (fun v13 S14 => if v13 = 0 then f_X5_drawYear_b139 x0 x1 x2 x3 x4 S14 else fgetr S14 x1 1 0 (fun v15 => fast S14 v15 x4 1 2 (fun S16 => f_X5_drawYear_b175 S16))) else f_X5_drawYear_b139 x0 x1 x2 x3 x4 S else f_X5_drawYear_b139 x0 x1 x2 x3 x4 S
theorem p_f_X5_drawYear_b105 {G : jG} {d : Nat} {S0 : jSt} (hd0 : 6 ≤ d) : ∀ (x0 : Int) (x1 : Int) (x2 : Int) (x3 : Int) (x4 : Int) (S : jSt), (0 ≤ (x0)) → (0 ≤ (x1)) → (R32 (x2)) → (R32 (x3)) → (R32 (x4)) → J G yX5_drawYear cX5_drawYear 5 none d S0 105 [(0, 2, x0), (1, 2, x1), (2, 0, x2), (3, 0, x3), (4, 0, x4)] [] S (f_X5_drawYear_b105  x0 x1 x2 x3 x4 S) := by
  intro x0 x1 x2 x3 x4 S h0 h1 h2 h3 h4
  unfold f_X5_drawYear_b105
  refine j_iload_n 3 dX5_drawYear_105 rfl rfl ?_
  refine j_iconst dX5_drawYear_106 ?_
  refine j_icmp_ne (tgt := 139) h3 (j_r32 2 rfl) dX5_drawYear_107 rfl (fun _ => ?_) (fun _ => ?_)
  · exact p_f_X5_drawYear_b139 hd0 x0 x1 x2 x3 x4 S h0 h1 h2 h3 h4
  · refine j_iload_n 2 dX5_drawYear_110 rfl rfl ?_
    refine j_bipush dX5_drawYear_111 (by decide) ?_
    refine j_irem (j_r32 8 rfl) dX5_drawYear_113 ?_
    refine j_iconst dX5_drawYear_114 ?_
    refine j_icmp_ne (tgt := 139) (irem32_R _ _) (j_r32 2 rfl) dX5_drawYear_115 rfl (fun _ => ?_) (fun _ => ?_)
    · exact p_f_X5_drawYear_b139 hd0 x0 x1 x2 x3 x4 S h0 h1 h2 h3 h4
    · refine j_aload_n 0 dX5_drawYear_118 rfl rfl ?_
      refine j_aload_n 1 dX5_drawYear_119 rfl rfl ?_
      refine j_iload 4 dX5_drawYear_120 rfl ?_
      refine j_callV (ci := 5) (As := [(2, x1), (0, x4)]) (st := []) kc_X5_canBurn (c_X5_canBurn x0 x1 x4 S h0 h1 h4) rfl lm_X5_148 ki_X5_canBurn ke_X5_canBurn rfl (Nat.le_of_ble_eq_true rfl) (Nat.le_trans (m := 6) (Nat.le_of_ble_eq_true rfl) hd0) dX5_drawYear_122 (fun (v13 : Int) (S14 : jSt) (hv13 : (v13) = 0 ∨ (v13) = 1) => ?_)
      refine j_if_eq (tgt := 139) (jZ_R hv13) dX5_drawYear_125 rfl (fun _ => ?_) (fun _ => ?_)
      · exact p_f_X5_drawYear_b139 hd0 x0 x1 x2 x3 x4 S14 h0 h1 h2 h3 h4
      · refine j_aload_n 1 dX5_drawYear_128 rfl rfl ?_
        refine j_getr (ci := 1) (k := 0) rfl in_X1 (Nat.le_of_ble_eq_true rfl) rfl rfl fl_X5_93 dX5_drawYear_129 (fun (v15 : Int) (hv15 : 0 ≤ v15) => ?_)
        refine j_iload 4 dX5_drawYear_132 rfl ?_
        refine j_iconst dX5_drawYear_134 ?_
        refine j_iastore h4 (j_r32 2 rfl) dX5_drawYear_135 (fun S16 => ?_)
        refine j_goto (tgt := 175) dX5_drawYear_136 rfl ?_
        refine j_sub [] rfl ?_
        exact p_f_X5_drawYear_b175 hd0 S16
def f_X5_drawYear_b31 (S : jSt) : Option (Int × jSt) :=
  some (0, S)
theorem p_f_X5_drawYear_b31 {G : jG} {d : Nat} {S0 : jSt} (hd0 : 6 ≤ d) : ∀ (S : jSt), J G yX5_drawYear cX5_drawYear 5 none d S0 31 [] [] S (f_X5_drawYear_b31   S) := by
  intro S
  unfold f_X5_drawYear_b31
  exact j_return dX5_drawYear_31
def f_X5_drawYear (a0 : Int) (a1 : Int) (S : jSt) : Option (Int × jSt) :=
  fcallv S a1 1 (f_X1_turnX a1 S) (fun v1 S2 => if 6 = 0 then none else flet (irem32 v1 6) (fun v3 => if v3 < 4 then fgetr S2 a0 5 2 (fun v4 => fget S2 v4 10 0 (fun v5 => if v5 = 0 then some (0, S2) else fgetr S2 a0 5 2 (fun v6 => fget S2 v6 10 0 (fun v7 => if v7 = 0 then none else flet (irem32 v1 v7) (fun v8 => if v3 = 0 then fcallv S2 a0 5 (f_X5_findWinner a0 a1 v8 S2) (fun v22 S23 => fcallv S23 a0 5 (f_X5_handOver a0 a1 v8 S23) (fun v24 S25 => f_X5_drawYear_b175 S25)) else if v3 = 1 then fcallv S2 a0 5 (f_X5_canCarry a0 a1 v8 S2) (fun v17 S18 => if v17 = 0 then f_X5_drawYear_b105 a0 a1 v1 v3 v8 S18 else fgetr S18 a1 1 1 (fun v19 => fald S18 v19 v8 1 (fun v20 => fast S18 v19 v8 1 (w32 (v20 + 1)) (fun S21 => f_X5_drawYear_b175 S21)))) else f_X5_drawYear_b105 a0 a1 v1 v3 v8 S2))))) else fget S2 a1 1 7 (fun v26 => if 9999 ≤ v26 then f_X5_drawYear_b31 S2 else fcallv S2 a0 5 (f_X5_passWeek a0 a1 S2) (fun v27 S28 => f_X5_drawYear_b31 S28))))
theorem e_X5_drawYear {G : jG} {d : Nat} {S0 : jSt} (hd0 : 6 ≤ d) (a0 : Int) (a1 : Int) (S : jSt) (h0 : 0 ≤ (a0)) (h1 : 0 ≤ (a1)) : J G yX5_drawYear cX5_drawYear 5 none d S0 0 [(0, 2, a0), (1, 2, a1)] [] S (f_X5_drawYear a0 a1 S) := by
  unfold f_X5_drawYear
  refine j_aload_n 1 dX5_drawYear_0 rfl rfl ?_
  refine j_callV (ci := 1) (As := []) (st := []) kc_X1_turnX (c_X1_turnX a1 S h1) rfl lm_X5_134 ki_X1_turnX ke_X1_turnX rfl (Nat.le_of_ble_eq_true rfl) (Nat.le_trans (m := 6) (Nat.le_of_ble_eq_true rfl) hd0) dX5_drawYear_1 (fun (v1 : Int) (S2 : jSt) (hv1 : R32 (v1)) => ?_)
  refine j_istore_n (lv' := [(2, 0, v1), (0, 2, a0), (1, 2, a1)]) dX5_drawYear_4 rfl (Nat.le_of_ble_eq_true rfl) rfl ?_
  refine j_iload_n 0 dX5_drawYear_5 rfl rfl ?_
  refine j_bipush dX5_drawYear_6 (by decide) ?_
  refine j_irem (j_r32 6 rfl) dX5_drawYear_8 ?_
  refine j_leti (irem32_R _ _) (fun v3 hv3 => ?_)
  refine j_istore_n (lv' := [(3, 0, v3), (2, 0, v1), (0, 2, a0), (1, 2, a1)]) dX5_drawYear_9 rfl (Nat.le_of_ble_eq_true rfl) rfl ?_
  refine j_iload_n 0 dX5_drawYear_10 rfl rfl ?_
  refine j_iconst dX5_drawYear_11 ?_
  refine j_icmp_lt (tgt := 32) hv3 (j_r32 4 rfl) dX5_drawYear_12 rfl (fun _ => ?_) (fun _ => ?_)
  · refine j_aload_n 2 dX5_drawYear_32 rfl rfl ?_
    refine j_getr (ci := 5) (k := 2) rfl in_X5 (Nat.le_of_ble_eq_true rfl) rfl rfl fl_X5_18 dX5_drawYear_33 (fun (v4 : Int) (hv4 : 0 ≤ v4) => ?_)
    refine j_get (ci := 10) (k := 0) (t := 0) rfl in_X10 (Nat.le_of_ble_eq_true rfl) rfl rfl fl_X5_114 dX5_drawYear_36 (fun (v5 : Int) (hv5 : R32 (v5)) => ?_)
    refine j_if_ne (tgt := 43) hv5 dX5_drawYear_39 rfl (fun _ => ?_) (fun _ => ?_)
    · refine j_iload_n 1 dX5_drawYear_43 rfl rfl ?_
      refine j_aload_n 2 dX5_drawYear_44 rfl rfl ?_
      refine j_getr (ci := 5) (k := 2) rfl in_X5 (Nat.le_of_ble_eq_true rfl) rfl rfl fl_X5_18 dX5_drawYear_45 (fun (v6 : Int) (hv6 : 0 ≤ v6) => ?_)
      refine j_get (ci := 10) (k := 0) (t := 0) rfl in_X10 (Nat.le_of_ble_eq_true rfl) rfl rfl fl_X5_114 dX5_drawYear_48 (fun (v7 : Int) (hv7 : R32 (v7)) => ?_)
      refine j_irem hv7 dX5_drawYear_51 ?_
      refine j_leti (irem32_R _ _) (fun v8 hv8 => ?_)
      refine j_istore (lv' := [(4, 0, v8), (3, 0, v3), (2, 0, v1), (0, 2, a0), (1, 2, a1)]) dX5_drawYear_52 (Nat.le_of_ble_eq_true rfl) rfl ?_
      refine j_iload_n 1 dX5_drawYear_54 rfl rfl ?_
      refine j_if_ne (tgt := 76) hv3 dX5_drawYear_55 rfl (fun _ => ?_) (fun _ => ?_)
      · refine j_iload_n 1 dX5_drawYear_76 rfl rfl ?_
        refine j_iconst dX5_drawYear_77 ?_
        refine j_icmp_ne (tgt := 105) hv3 (jZ_R jz1) dX5_drawYear_78 rfl (fun _ => ?_) (fun _ => ?_)
        · refine j_sub [3, 4, 2, 1, 0] rfl ?_
          exact p_f_X5_drawYear_b105 hd0 a0 a1 v1 v3 v8 S2 h0 h1 hv1 hv3 hv8
        · refine j_aload_n 3 dX5_drawYear_81 rfl rfl ?_
          refine j_aload_n 4 dX5_drawYear_82 rfl rfl ?_
          refine j_iload 0 dX5_drawYear_83 rfl ?_
          refine j_callV (ci := 5) (As := [(2, a1), (0, v8)]) (st := []) kc_X5_canCarry (c_X5_canCarry a0 a1 v8 S2 h0 h1 hv8) rfl lm_X5_145 ki_X5_canCarry ke_X5_canCarry rfl (Nat.le_of_ble_eq_true rfl) (Nat.le_trans (m := 6) (Nat.le_of_ble_eq_true rfl) hd0) dX5_drawYear_85 (fun (v17 : Int) (S18 : jSt) (hv17 : (v17) = 0 ∨ (v17) = 1) => ?_)
          refine j_if_eq (tgt := 105) (jZ_R hv17) dX5_drawYear_88 rfl (fun _ => ?_) (fun _ => ?_)
          · refine j_sub [3, 4, 2, 1, 0] rfl ?_
            exact p_f_X5_drawYear_b105 hd0 a0 a1 v1 v3 v8 S18 h0 h1 hv1 hv3 hv8
          · refine j_aload_n 4 dX5_drawYear_91 rfl rfl ?_
            refine j_getr (ci := 1) (k := 1) rfl in_X1 (Nat.le_of_ble_eq_true rfl) rfl rfl fl_X5_103 dX5_drawYear_92 (fun (v19 : Int) (hv19 : 0 ≤ v19) => ?_)
            refine j_iload 0 dX5_drawYear_95 rfl ?_
            refine j_dup2 dX5_drawYear_97 (fun h => nomatch h) (fun h => nomatch h) ?_
            refine j_iaload hv8 dX5_drawYear_98 (fun (v20 : Int) (hv20 : R32 (v20)) => ?_)
            refine j_iconst dX5_drawYear_99 ?_
            refine j_iadd dX5_drawYear_100 ?_
            refine j_iastore hv8 (w32_R _) dX5_drawYear_101 (fun S21 => ?_)
            refine j_goto (tgt := 175) dX5_drawYear_102 rfl ?_
            refine j_sub [] rfl ?_
            exact p_f_X5_drawYear_b175 hd0 S21
      · refine j_aload_n 3 dX5_drawYear_58 rfl rfl ?_
        refine j_aload_n 4 dX5_drawYear_59 rfl rfl ?_
        refine j_iload 0 dX5_drawYear_60 rfl ?_
        refine j_callV (ci := 5) (As := [(2, a1), (0, v8)]) (st := []) kc_X5_findWinner (c_X5_findWinner a0 a1 v8 S2 h0 h1 hv8) rfl lm_X5_125 ki_X5_findWinner ke_X5_findWinner rfl (Nat.le_of_ble_eq_true rfl) (Nat.le_trans (m := 6) (Nat.le_of_ble_eq_true rfl) hd0) dX5_drawYear_62 (fun v22 S23 _ => ?_)
        refine j_aload_n 3 dX5_drawYear_65 rfl rfl ?_
        refine j_aload_n 4 dX5_drawYear_66 rfl rfl ?_
        refine j_iload 0 dX5_drawYear_67 rfl ?_
        refine j_callV (ci := 5) (As := [(2, a1), (0, v8)]) (st := []) kc_X5_handOver (c_X5_handOver a0 a1 v8 S23 h0 h1 hv8) rfl lm_X5_128 ki_X5_handOver ke_X5_handOver rfl (Nat.le_of_ble_eq_true rfl) (Nat.le_trans (m := 6) (Nat.le_of_ble_eq_true rfl) hd0) dX5_drawYear_69 (fun (v24 : Int) (S25 : jSt) (hv24 : (v24) = 0 ∨ (v24) = 1) => ?_)
        refine j_pop dX5_drawYear_72 (fun h => nomatch h) ?_
        refine j_goto (tgt := 175) dX5_drawYear_73 rfl ?_
        refine j_sub [] rfl ?_
        exact p_f_X5_drawYear_b175 hd0 S25
    · exact j_return dX5_drawYear_42
  · refine j_aload_n 3 dX5_drawYear_15 rfl rfl ?_
    refine j_get (ci := 1) (k := 7) (t := 0) rfl in_X1 (Nat.le_of_ble_eq_true rfl) rfl rfl fl_X5_131 dX5_drawYear_16 (fun (v26 : Int) (hv26 : R32 (v26)) => ?_)
    refine j_sipush dX5_drawYear_19 (by decide) ?_
    refine j_icmp_ge (tgt := 31) hv26 (j_r32 9999 rfl) dX5_drawYear_22 rfl (fun _ => ?_) (fun _ => ?_)
    · refine j_sub [] rfl ?_
      exact p_f_X5_drawYear_b31 hd0 S2
    · refine j_aload_n 2 dX5_drawYear_25 rfl rfl ?_
      refine j_aload_n 3 dX5_drawYear_26 rfl rfl ?_
      refine j_callV (ci := 5) (As := [(2, a1)]) (st := []) kc_X5_passWeek (c_X5_passWeek a0 a1 S2 h0 h1) rfl lm_X5_141 ki_X5_passWeek ke_X5_passWeek rfl (Nat.le_of_ble_eq_true rfl) (Nat.le_trans (m := 6) (Nat.le_of_ble_eq_true rfl) hd0) dX5_drawYear_27 (fun (v27 : Int) (S28 : jSt) (hv27 : R32 (v27)) => ?_)
      refine j_pop dX5_drawYear_30 (fun h => nomatch h) ?_
      refine j_sub [] rfl ?_
      exact p_f_X5_drawYear_b31 hd0 S28
theorem c_X5_drawYear {G : jG} (a0 : Int) (a1 : Int) (S : jSt) (h0 : 0 ≤ (a0)) (h1 : 0 ≤ (a1)) : CT G yX5_drawYear cX5_drawYear 5 none 6 ([(2, a0), (2, a1)].map jval) S (f_X5_drawYear a0 a1 S) := ct_of [(2, a0), (2, a1)] (by decide) rfl (Nat.le_of_ble_eq_true rfl) (e_X5_drawYear (Nat.le_refl _) a0 a1 S h0 h1)
-- X11_years
def f_X11_years_b21 (S : jSt) : Option (Int × jSt) :=
  some ((-1), S)
theorem p_f_X11_years_b21 {G : jG} {d : Nat} {S0 : jSt} (hd0 : 7 ≤ d) : ∀ (S : jSt), J G yX11_years cX11_years 4 (some .int) d S0 21 [] [] S (f_X11_years_b21   S) := by
  intro S
  unfold f_X11_years_b21
  refine j_iconst dX11_years_21 ?_
  exact j_ireturn (j_r32 (-1) rfl) dX11_years_22
def f_X11_years_b50B (r50 : Int → Int → Int → jSt → Option (Int × jSt)) (x0 : Int) (x1 : Int) (x2 : Int) (S : jSt) : Option (Int × jSt) :=
  if x1 ≤ x2 then fgetr S x0 11 1 (fun v11 => fget S v11 1 7 (fun v12 => some (v12, S))) else fgetr S x0 11 8 (fun v13 => fgetr S x0 11 1 (fun v14 => fcallv S v13 5 (f_X5_drawYear v13 v14 S) (fun v15 S16 => flet (w32 (x2 + 1)) (fun v17 => r50 x0 x1 v17 S16))))
theorem p_f_X11_years_b50B {G : jG} {d : Nat} {S0 : jSt} (hd0 : 7 ≤ d) {r50 : Int → Int → Int → jSt → Option (Int × jSt)} (k50 : ∀ (x0 : Int) (x1 : Int) (x2 : Int) (S : jSt), (0 ≤ (x0)) → (R32 (x1)) → (R32 (x2)) → J G yX11_years cX11_years 4 (some .int) d S0 50 [(0, 2, x0), (2, 0, x1), (3, 0, x2)] [] S (r50 x0 x1 x2 S)) : ∀ (x0 : Int) (x1 : Int) (x2 : Int) (S : jSt), (0 ≤ (x0)) → (R32 (x1)) → (R32 (x2)) → J G yX11_years cX11_years 4 (some .int) d S0 50 [(0, 2, x0), (2, 0, x1), (3, 0, x2)] [] S (f_X11_years_b50B r50 x0 x1 x2 S) := by
  intro x0 x1 x2 S h0 h1 h2
  unfold f_X11_years_b50B
  refine j_iload_n 2 dX11_years_50 rfl rfl ?_
  refine j_iload_n 1 dX11_years_51 rfl rfl ?_
  refine j_icmp_ge (tgt := 72) h2 h1 dX11_years_52 rfl (fun _ => ?_) (fun _ => ?_)
  · refine j_aload_n 0 dX11_years_72 rfl rfl ?_
    refine j_getr (ci := 11) (k := 1) rfl in_X11 (Nat.le_of_ble_eq_true rfl) rfl rfl fl_X11_19 dX11_years_73 (fun (v11 : Int) (hv11 : 0 ≤ v11) => ?_)
    refine j_get (ci := 1) (k := 7) (t := 0) rfl in_X1 (Nat.le_of_ble_eq_true rfl) rfl rfl fl_X11_193 dX11_years_76 (fun (v12 : Int) (hv12 : R32 (v12)) => ?_)
    exact j_ireturn hv12 dX11_years_79
  · refine j_aload_n 0 dX11_years_55 rfl rfl ?_
    refine j_getr (ci := 11) (k := 8) rfl in_X11 (Nat.le_of_ble_eq_true rfl) rfl rfl fl_X11_60 dX11_years_56 (fun (v13 : Int) (hv13 : 0 ≤ v13) => ?_)
    refine j_aload_n 0 dX11_years_59 rfl rfl ?_
    refine j_getr (ci := 11) (k := 1) rfl in_X11 (Nat.le_of_ble_eq_true rfl) rfl rfl fl_X11_19 dX11_years_60 (fun (v14 : Int) (hv14 : 0 ≤ v14) => ?_)
    refine j_callV (ci := 5) (As := [(2, v14)]) (st := []) kc_X5_drawYear (c_X5_drawYear v13 v14 S hv13 hv14) rfl lm_X11_216 ki_X5_drawYear ke_X5_drawYear rfl (Nat.le_of_ble_eq_true rfl) (Nat.le_trans (m := 7) (Nat.le_of_ble_eq_true rfl) hd0) dX11_years_63 (fun v15 S16 _ => ?_)
    refine j_iincL (q := 2) dX11_years_66 rfl (Nat.le_of_ble_eq_true rfl) (fun v17 hv17 => ?_)
    refine j_lv (lv' := [(3, 0, v17), (0, 2, x0), (2, 0, x1)]) rfl ?_
    refine j_goto (tgt := 50) dX11_years_69 rfl ?_
    refine j_sub [1, 2, 0] rfl ?_
    exact k50 x0 x1 v17 S16 h0 h1 hv17
def f_X11_years_b50 : Int → Int → Int → jSt → Option (Int × jSt) := jrep (β := Int → Int → Int → jSt → Option (Int × jSt)) (fun _ _ _ _ => none) (fun r => f_X11_years_b50B r) jN
theorem p_f_X11_years_b50 {G : jG} {d : Nat} {S0 : jSt} (hd0 : 7 ≤ d) : ∀ (x0 : Int) (x1 : Int) (x2 : Int) (S : jSt), (0 ≤ (x0)) → (R32 (x1)) → (R32 (x2)) → J G yX11_years cX11_years 4 (some .int) d S0 50 [(0, 2, x0), (2, 0, x1), (3, 0, x2)] [] S (f_X11_years_b50  x0 x1 x2 S) :=
  jrep_ind (P := fun (r : Int → Int → Int → jSt → Option (Int × jSt)) => ∀ (x0 : Int) (x1 : Int) (x2 : Int) (S : jSt), (0 ≤ (x0)) → (R32 (x1)) → (R32 (x2)) → J G yX11_years cX11_years 4 (some .int) d S0 50 [(0, 2, x0), (2, 0, x1), (3, 0, x2)] [] S (r x0 x1 x2 S)) (by intros; exact j_none) (fun r k => p_f_X11_years_b50B hd0 k) jN
def f_X11_years (a0 : Int) (a1 : Int) (a2 : Int) (S : jSt) : Option (Int × jSt) :=
  fcall (f_X11_within a1 0 9999 S) (fun v1 S2 => if v1 = 0 then f_X11_years_b21 S2 else fcall (f_X11_within a2 1 40 S2) (fun v3 S4 => if v3 = 0 then f_X11_years_b21 S4 else fgetr S4 a0 11 2 (fun v5 => fgetr S4 a0 11 1 (fun v6 => fcallv S4 v5 8 (f_X8_push v5 v6 S4) (fun v7 S8 => fgetr S8 a0 11 1 (fun v9 => fput S8 v9 1 8 (w32 ((w32 (a1 * 2)) + 211)) (fun S10 => f_X11_years_b50 a0 a2 0 S10)))))))
theorem e_X11_years {G : jG} {d : Nat} {S0 : jSt} (hd0 : 7 ≤ d) (a0 : Int) (a1 : Int) (a2 : Int) (S : jSt) (h0 : 0 ≤ (a0)) (h1 : R32 (a1)) (h2 : R32 (a2)) : J G yX11_years cX11_years 4 (some .int) d S0 0 [(0, 2, a0), (1, 0, a1), (2, 0, a2)] [] S (f_X11_years a0 a1 a2 S) := by
  unfold f_X11_years
  refine j_iload_n 1 dX11_years_0 rfl rfl ?_
  refine j_iconst dX11_years_1 ?_
  refine j_sipush dX11_years_2 (by decide) ?_
  refine j_callS (As := [(0, a1), (0, 0), (0, 9999)]) (st := []) kc_X11_within (c_X11_within a1 0 9999 S h1 (jZ_R jz0) (j_r32 9999 rfl)) lm_X11_76 ks_X11_within rfl (Nat.le_of_ble_eq_true rfl) (Nat.le_trans (m := 7) (Nat.le_of_ble_eq_true rfl) hd0) dX11_years_5 (fun (v1 : Int) (S2 : jSt) (hv1 : (v1) = 0 ∨ (v1) = 1) => ?_)
  refine j_if_eq (tgt := 21) (jZ_R hv1) dX11_years_8 rfl (fun _ => ?_) (fun _ => ?_)
  · refine j_sub [] rfl ?_
    exact p_f_X11_years_b21 hd0 S2
  · refine j_iload_n 2 dX11_years_11 rfl rfl ?_
    refine j_iconst dX11_years_12 ?_
    refine j_bipush dX11_years_13 (by decide) ?_
    refine j_callS (As := [(0, a2), (0, 1), (0, 40)]) (st := []) kc_X11_within (c_X11_within a2 1 40 S2 h2 (jZ_R jz1) (j_r32 40 rfl)) lm_X11_76 ks_X11_within rfl (Nat.le_of_ble_eq_true rfl) (Nat.le_trans (m := 7) (Nat.le_of_ble_eq_true rfl) hd0) dX11_years_15 (fun (v3 : Int) (S4 : jSt) (hv3 : (v3) = 0 ∨ (v3) = 1) => ?_)
    refine j_if_ne (tgt := 23) (jZ_R hv3) dX11_years_18 rfl (fun _ => ?_) (fun _ => ?_)
    · refine j_aload_n 0 dX11_years_23 rfl rfl ?_
      refine j_getr (ci := 11) (k := 2) rfl in_X11 (Nat.le_of_ble_eq_true rfl) rfl rfl fl_X11_26 dX11_years_24 (fun (v5 : Int) (hv5 : 0 ≤ v5) => ?_)
      refine j_aload_n 0 dX11_years_27 rfl rfl ?_
      refine j_getr (ci := 11) (k := 1) rfl in_X11 (Nat.le_of_ble_eq_true rfl) rfl rfl fl_X11_19 dX11_years_28 (fun (v6 : Int) (hv6 : 0 ≤ v6) => ?_)
      refine j_callV (ci := 8) (As := [(2, v6)]) (st := []) kc_X8_push (c_X8_push v5 v6 S4 hv5 hv6) rfl lm_X11_162 ki_X8_push ke_X8_push rfl (Nat.le_of_ble_eq_true rfl) (Nat.le_trans (m := 7) (Nat.le_of_ble_eq_true rfl) hd0) dX11_years_31 (fun v7 S8 _ => ?_)
      refine j_aload_n 0 dX11_years_34 rfl rfl ?_
      refine j_getr (ci := 11) (k := 1) rfl in_X11 (Nat.le_of_ble_eq_true rfl) rfl rfl fl_X11_19 dX11_years_35 (fun (v9 : Int) (hv9 : 0 ≤ v9) => ?_)
      refine j_iload_n 1 dX11_years_38 rfl rfl ?_
      refine j_iconst dX11_years_39 ?_
      refine j_imul dX11_years_40 ?_
      refine j_sipush dX11_years_41 (by decide) ?_
      refine j_iadd dX11_years_44 ?_
      refine j_puti (ci := 1) (k := 8) (ty0 := tyX1) rfl in_X1 (Nat.le_of_ble_eq_true rfl) rfl tyX1_ok nmX1 rfl rfl (by decide +kernel) (w32_R _) fl_X11_213 dX11_years_45 (fun S10 => ?_)
      refine j_iconst dX11_years_48 ?_
      refine j_istore_n (lv' := [(3, 0, 0), (0, 2, a0), (1, 0, a1), (2, 0, a2)]) dX11_years_49 rfl (Nat.le_of_ble_eq_true rfl) rfl ?_
      refine j_sub [1, 3, 0] rfl ?_
      exact p_f_X11_years_b50 hd0 a0 a2 0 S10 h0 h2 (jZ_R jz0)
    · refine j_sub [] rfl ?_
      exact p_f_X11_years_b21 hd0 S4
theorem c_X11_years {G : jG} (a0 : Int) (a1 : Int) (a2 : Int) (S : jSt) (h0 : 0 ≤ (a0)) (h1 : R32 (a1)) (h2 : R32 (a2)) : CT G yX11_years cX11_years 4 (some .int) 7 ([(2, a0), (0, a1), (0, a2)].map jval) S (f_X11_years a0 a1 a2 S) := ct_of [(2, a0), (0, a1), (0, a2)] (by decide) rfl (Nat.le_of_ble_eq_true rfl) (e_X11_years (Nat.le_refl _) a0 a1 a2 S h0 h1 h2)
-- X12_isIn
def f_X12_isIn_b15 (x0 : Int) (S : jSt) : Option (Int × jSt) :=
  some (x0, S)
theorem p_f_X12_isIn_b15 {G : jG} {d : Nat} {S0 : jSt} (hd0 : 1 ≤ d) : ∀ (x0 : Int) (S : jSt), ((x0) = 0 ∨ (x0) = 1) → J G yX12_isIn cX12_isIn 3 (some .boolean) d S0 15 [] [(0, x0)] S (f_X12_isIn_b15  x0 S) := by
  intro x0 S h0
  unfold f_X12_isIn_b15
  exact j_zreturn h0 dX12_isIn_15
def f_X12_isIn_b14 (S : jSt) : Option (Int × jSt) :=
  f_X12_isIn_b15 0 S
theorem p_f_X12_isIn_b14 {G : jG} {d : Nat} {S0 : jSt} (hd0 : 1 ≤ d) : ∀ (S : jSt), J G yX12_isIn cX12_isIn 3 (some .boolean) d S0 14 [] [] S (f_X12_isIn_b14   S) := by
  intro S
  unfold f_X12_isIn_b14
  refine j_iconst dX12_isIn_14 ?_
  exact p_f_X12_isIn_b15 hd0 0 S jz0
def f_X12_isIn (a0 : Int) (a1 : Int) (a2 : Int) (S : jSt) : Option (Int × jSt) :=
  if a0 < a1 then f_X12_isIn_b14 S else if a2 < a0 then f_X12_isIn_b14 S else f_X12_isIn_b15 1 S
theorem e_X12_isIn {G : jG} {d : Nat} {S0 : jSt} (hd0 : 1 ≤ d) (a0 : Int) (a1 : Int) (a2 : Int) (S : jSt) (h0 : R32 (a0)) (h1 : R32 (a1)) (h2 : R32 (a2)) : J G yX12_isIn cX12_isIn 3 (some .boolean) d S0 0 [(0, 0, a0), (1, 0, a1), (2, 0, a2)] [] S (f_X12_isIn a0 a1 a2 S) := by
  unfold f_X12_isIn
  refine j_iload_n 0 dX12_isIn_0 rfl rfl ?_
  refine j_iload_n 1 dX12_isIn_1 rfl rfl ?_
  refine j_icmp_lt (tgt := 14) h0 h1 dX12_isIn_2 rfl (fun _ => ?_) (fun _ => ?_)
  · refine j_sub [] rfl ?_
    exact p_f_X12_isIn_b14 hd0 S
  · refine j_iload_n 0 dX12_isIn_5 rfl rfl ?_
    refine j_iload_n 2 dX12_isIn_6 rfl rfl ?_
    refine j_icmp_gt (tgt := 14) h0 h2 dX12_isIn_7 rfl (fun _ => ?_) (fun _ => ?_)
    · refine j_sub [] rfl ?_
      exact p_f_X12_isIn_b14 hd0 S
    · refine j_iconst dX12_isIn_10 ?_
      refine j_goto (tgt := 15) dX12_isIn_11 rfl ?_
      refine j_sub [] rfl ?_
      exact p_f_X12_isIn_b15 hd0 1 S jz1
theorem c_X12_isIn {G : jG} (a0 : Int) (a1 : Int) (a2 : Int) (S : jSt) (h0 : R32 (a0)) (h1 : R32 (a1)) (h2 : R32 (a2)) : CT G yX12_isIn cX12_isIn 3 (some .boolean) 1 ([(0, a0), (0, a1), (0, a2)].map jval) S (f_X12_isIn a0 a1 a2 S) := ct_of [(0, a0), (0, a1), (0, a2)] (by decide) rfl (Nat.le_of_ble_eq_true rfl) (e_X12_isIn (Nat.le_refl _) a0 a1 a2 S h0 h1 h2)
-- X12_about
def f_X12_about_b34 (x0 : Int) (S : jSt) : Option (Int × jSt) :=
  some (x0, S)
theorem p_f_X12_about_b34 {G : jG} {d : Nat} {S0 : jSt} (hd0 : 2 ≤ d) : ∀ (x0 : Int) (S : jSt), (R32 (x0)) → J G yX12_about cX12_about 2 (some .int) d S0 34 [] [(0, x0)] S (f_X12_about_b34  x0 S) := by
  intro x0 S h0
  unfold f_X12_about_b34
  exact j_ireturn h0 dX12_about_34
def f_X12_about (a0 : Int) (a1 : Int) (S : jSt) : Option (Int × jSt) :=
  fcall (f_X12_isIn a1 0 6 S) (fun v1 S2 => if v1 = 0 then if a1 = 7 then fget S2 a0 12 4 (fun v3 => f_X12_about_b34 v3 S2) else f_X12_about_b34 (-2) S2 else fgetr S2 a0 12 0 (fun v4 => fald S2 v4 a1 1 (fun v5 => f_X12_about_b34 v5 S2)))
theorem e_X12_about {G : jG} {d : Nat} {S0 : jSt} (hd0 : 2 ≤ d) (a0 : Int) (a1 : Int) (S : jSt) (h0 : 0 ≤ (a0)) (h1 : R32 (a1)) : J G yX12_about cX12_about 2 (some .int) d S0 0 [(0, 2, a0), (1, 0, a1)] [] S (f_X12_about a0 a1 S) := by
  unfold f_X12_about
  refine j_iload_n 1 dX12_about_0 rfl rfl ?_
  refine j_iconst dX12_about_1 ?_
  refine j_bipush dX12_about_2 (by decide) ?_
  refine j_callS (As := [(0, a1), (0, 0), (0, 6)]) (st := []) kc_X12_isIn (c_X12_isIn a1 0 6 S h1 (jZ_R jz0) (j_r32 6 rfl)) lm_X12_60 ks_X12_isIn rfl (Nat.le_of_ble_eq_true rfl) (Nat.le_trans (m := 2) (Nat.le_of_ble_eq_true rfl) hd0) dX12_about_4 (fun (v1 : Int) (S2 : jSt) (hv1 : (v1) = 0 ∨ (v1) = 1) => ?_)
  refine j_if_eq (tgt := 19) (jZ_R hv1) dX12_about_7 rfl (fun _ => ?_) (fun _ => ?_)
  · refine j_iload_n 1 dX12_about_19 rfl rfl ?_
    refine j_bipush dX12_about_20 (by decide) ?_
    refine j_icmp_ne (tgt := 32) h1 (j_r32 7 rfl) dX12_about_22 rfl (fun _ => ?_) (fun _ => ?_)
    · refine j_bipush dX12_about_32 (by decide) ?_
      refine j_sub [] rfl ?_
      exact p_f_X12_about_b34 hd0 (-2) S2 (j_r32 (-2) rfl)
    · refine j_aload_n 0 dX12_about_25 rfl rfl ?_
      refine j_get (ci := 12) (k := 4) (t := 0) rfl in_X12 (Nat.le_of_ble_eq_true rfl) rfl rfl fl_X12_85 dX12_about_26 (fun (v3 : Int) (hv3 : R32 (v3)) => ?_)
      refine j_goto (tgt := 34) dX12_about_29 rfl ?_
      refine j_sub [] rfl ?_
      exact p_f_X12_about_b34 hd0 v3 S2 hv3
  · refine j_aload_n 0 dX12_about_10 rfl rfl ?_
    refine j_getr (ci := 12) (k := 0) rfl in_X12 (Nat.le_of_ble_eq_true rfl) rfl rfl fl_X12_7 dX12_about_11 (fun (v4 : Int) (hv4 : 0 ≤ v4) => ?_)
    refine j_iload_n 1 dX12_about_14 rfl rfl ?_
    refine j_iaload h1 dX12_about_15 (fun (v5 : Int) (hv5 : R32 (v5)) => ?_)
    refine j_goto (tgt := 34) dX12_about_16 rfl ?_
    refine j_sub [] rfl ?_
    exact p_f_X12_about_b34 hd0 v5 S2 hv5
theorem c_X12_about {G : jG} (a0 : Int) (a1 : Int) (S : jSt) (h0 : 0 ≤ (a0)) (h1 : R32 (a1)) : CT G yX12_about cX12_about 2 (some .int) 2 ([(2, a0), (0, a1)].map jval) S (f_X12_about a0 a1 S) := ct_of [(2, a0), (0, a1)] (by decide) rfl (Nat.le_of_ble_eq_true rfl) (e_X12_about (Nat.le_refl _) a0 a1 S h0 h1)
-- X12_anew
def f_X12_anew (a0 : Int) (S : jSt) : Option (Int × jSt) :=
  fgetr S a0 12 0 (fun v1 => fgetr S a0 12 0 (fun v2 => fald S v2 9 1 (fun v3 => if 30593 = 0 then none else fast S v1 9 1 (w32 (lrem64 (w64 ((w64 (v3 * 449)) + 337)) 30593)) (fun S4 => some (0, S4)))))
theorem e_X12_anew {G : jG} {d : Nat} {S0 : jSt} (hd0 : 1 ≤ d) (a0 : Int) (S : jSt) (h0 : 0 ≤ (a0)) : J G yX12_anew cX12_anew 1 none d S0 0 [(0, 2, a0)] [] S (f_X12_anew a0 S) := by
  unfold f_X12_anew
  refine j_aload_n 0 dX12_anew_0 rfl rfl ?_
  refine j_getr (ci := 12) (k := 0) rfl in_X12 (Nat.le_of_ble_eq_true rfl) rfl rfl fl_X12_7 dX12_anew_1 (fun (v1 : Int) (hv1 : 0 ≤ v1) => ?_)
  refine j_bipush dX12_anew_4 (by decide) ?_
  refine j_aload_n 0 dX12_anew_6 rfl rfl ?_
  refine j_getr (ci := 12) (k := 0) rfl in_X12 (Nat.le_of_ble_eq_true rfl) rfl rfl fl_X12_7 dX12_anew_7 (fun (v2 : Int) (hv2 : 0 ≤ v2) => ?_)
  refine j_bipush dX12_anew_10 (by decide) ?_
  refine j_iaload (j_r32 9 rfl) dX12_anew_12 (fun (v3 : Int) (hv3 : R32 (v3)) => ?_)
  refine j_i2l hv3 dX12_anew_13 ?_
  refine j_ldc2 cn_X12_313 dX12_anew_14 ?_
  refine j_lmul dX12_anew_17 ?_
  refine j_ldc2 cn_X12_315 dX12_anew_18 ?_
  refine j_ladd dX12_anew_21 ?_
  refine j_ldc2 cn_X12_317 dX12_anew_22 ?_
  refine j_lrem (j_r64 30593 rfl) dX12_anew_25 ?_
  refine j_l2i dX12_anew_26 ?_
  refine j_iastore (j_r32 9 rfl) (w32_R _) dX12_anew_27 (fun S4 => ?_)
  exact j_return dX12_anew_28
theorem c_X12_anew {G : jG} (a0 : Int) (S : jSt) (h0 : 0 ≤ (a0)) : CT G yX12_anew cX12_anew 1 none 1 ([(2, a0)].map jval) S (f_X12_anew a0 S) := ct_of [(2, a0)] (by decide) rfl (Nat.le_of_ble_eq_true rfl) (e_X12_anew (Nat.le_refl _) a0 S h0)
-- X12_get
def f_X12_get (a0 : Int) (a1 : Int) (a2 : Int) (S : jSt) : Option (Int × jSt) :=
  fgetr S a0 12 0 (fun v1 => fald S v1 (w32 ((w32 (11 + (w32 (5 * a1)))) + a2)) 1 (fun v2 => some (v2, S)))
theorem e_X12_get {G : jG} {d : Nat} {S0 : jSt} (hd0 : 1 ≤ d) (a0 : Int) (a1 : Int) (a2 : Int) (S : jSt) (h0 : 0 ≤ (a0)) (h1 : R32 (a1)) (h2 : R32 (a2)) : J G yX12_get cX12_get 3 (some .int) d S0 0 [(0, 2, a0), (1, 0, a1), (2, 0, a2)] [] S (f_X12_get a0 a1 a2 S) := by
  unfold f_X12_get
  refine j_aload_n 0 dX12_get_0 rfl rfl ?_
  refine j_getr (ci := 12) (k := 0) rfl in_X12 (Nat.le_of_ble_eq_true rfl) rfl rfl fl_X12_7 dX12_get_1 (fun (v1 : Int) (hv1 : 0 ≤ v1) => ?_)
  refine j_bipush dX12_get_4 (by decide) ?_
  refine j_iconst dX12_get_6 ?_
  refine j_iload_n 1 dX12_get_7 rfl rfl ?_
  refine j_imul dX12_get_8 ?_
  refine j_iadd dX12_get_9 ?_
  refine j_iload_n 2 dX12_get_10 rfl rfl ?_
  refine j_iadd dX12_get_11 ?_
  refine j_iaload (w32_R _) dX12_get_12 (fun (v2 : Int) (hv2 : R32 (v2)) => ?_)
  exact j_ireturn hv2 dX12_get_13
theorem c_X12_get {G : jG} (a0 : Int) (a1 : Int) (a2 : Int) (S : jSt) (h0 : 0 ≤ (a0)) (h1 : R32 (a1)) (h2 : R32 (a2)) : CT G yX12_get cX12_get 3 (some .int) 1 ([(2, a0), (0, a1), (0, a2)].map jval) S (f_X12_get a0 a1 a2 S) := ct_of [(2, a0), (0, a1), (0, a2)] (by decide) rfl (Nat.le_of_ble_eq_true rfl) (e_X12_get (Nat.le_refl _) a0 a1 a2 S h0 h1 h2)
-- X12_own
def f_X12_own (a0 : Int) (a1 : Int) (a2 : Int) (S : jSt) : Option (Int × jSt) :=
  fgetr S a0 12 0 (fun v1 => fald S v1 (w32 ((w32 (71 + (w32 (14 * a1)))) + a2)) 1 (fun v2 => some (v2, S)))
theorem e_X12_own {G : jG} {d : Nat} {S0 : jSt} (hd0 : 1 ≤ d) (a0 : Int) (a1 : Int) (a2 : Int) (S : jSt) (h0 : 0 ≤ (a0)) (h1 : R32 (a1)) (h2 : R32 (a2)) : J G yX12_own cX12_own 3 (some .int) d S0 0 [(0, 2, a0), (1, 0, a1), (2, 0, a2)] [] S (f_X12_own a0 a1 a2 S) := by
  unfold f_X12_own
  refine j_aload_n 0 dX12_own_0 rfl rfl ?_
  refine j_getr (ci := 12) (k := 0) rfl in_X12 (Nat.le_of_ble_eq_true rfl) rfl rfl fl_X12_7 dX12_own_1 (fun (v1 : Int) (hv1 : 0 ≤ v1) => ?_)
  refine j_bipush dX12_own_4 (by decide) ?_
  refine j_bipush dX12_own_6 (by decide) ?_
  refine j_iload_n 1 dX12_own_8 rfl rfl ?_
  refine j_imul dX12_own_9 ?_
  refine j_iadd dX12_own_10 ?_
  refine j_iload_n 2 dX12_own_11 rfl rfl ?_
  refine j_iadd dX12_own_12 ?_
  refine j_iaload (w32_R _) dX12_own_13 (fun (v2 : Int) (hv2 : R32 (v2)) => ?_)
  exact j_ireturn hv2 dX12_own_14
theorem c_X12_own {G : jG} (a0 : Int) (a1 : Int) (a2 : Int) (S : jSt) (h0 : 0 ≤ (a0)) (h1 : R32 (a1)) (h2 : R32 (a2)) : CT G yX12_own cX12_own 3 (some .int) 1 ([(2, a0), (0, a1), (0, a2)].map jval) S (f_X12_own a0 a1 a2 S) := ct_of [(2, a0), (0, a1), (0, a2)] (by decide) rfl (Nat.le_of_ble_eq_true rfl) (e_X12_own (Nat.le_refl _) a0 a1 a2 S h0 h1 h2)
-- X12_keep
def f_X12_keep_b228B (r228 : Int → Int → Int → jSt → Option (Int × jSt)) (x0 : Int) (x1 : Int) (x2 : Int) (S : jSt) : Option (Int × jSt) :=
  if 60 ≤ x2 then fgetr S x0 12 0 (fun v14 => fald S v14 4 1 (fun v15 => fast S v14 4 1 (w32 (v15 + 1)) (fun S16 => some (0, S16)))) else fgetr S x0 12 0 (fun v17 => fgetr S x0 12 0 (fun v18 => fald S v18 (w32 (4843 + x2)) 1 (fun v19 => fast S v17 (w32 ((w32 (x1 + 95)) + x2)) 1 v19 (fun S20 => flet (w32 (x2 + 1)) (fun v21 => r228 x0 x1 v21 S20)))))
theorem p_f_X12_keep_b228B {G : jG} {d : Nat} {S0 : jSt} (hd0 : 2 ≤ d) {r228 : Int → Int → Int → jSt → Option (Int × jSt)} (k228 : ∀ (x0 : Int) (x1 : Int) (x2 : Int) (S : jSt), (0 ≤ (x0)) → (R32 (x1)) → (R32 (x2)) → J G yX12_keep cX12_keep 4 none d S0 228 [(0, 2, x0), (1, 0, x1), (2, 0, x2)] [] S (r228 x0 x1 x2 S)) : ∀ (x0 : Int) (x1 : Int) (x2 : Int) (S : jSt), (0 ≤ (x0)) → (R32 (x1)) → (R32 (x2)) → J G yX12_keep cX12_keep 4 none d S0 228 [(0, 2, x0), (1, 0, x1), (2, 0, x2)] [] S (f_X12_keep_b228B r228 x0 x1 x2 S) := by
  intro x0 x1 x2 S h0 h1 h2
  unfold f_X12_keep_b228B
  refine j_iload_n 2 dX12_keep_228 rfl rfl ?_
  refine j_bipush dX12_keep_229 (by decide) ?_
  refine j_icmp_ge (tgt := 261) h2 (j_r32 60 rfl) dX12_keep_231 rfl (fun _ => ?_) (fun _ => ?_)
  · refine j_aload_n 0 dX12_keep_261 rfl rfl ?_
    refine j_getr (ci := 12) (k := 0) rfl in_X12 (Nat.le_of_ble_eq_true rfl) rfl rfl fl_X12_7 dX12_keep_262 (fun (v14 : Int) (hv14 : 0 ≤ v14) => ?_)
    refine j_iconst dX12_keep_265 ?_
    refine j_dup2 dX12_keep_266 (fun h => nomatch h) (fun h => nomatch h) ?_
    refine j_iaload (j_r32 4 rfl) dX12_keep_267 (fun (v15 : Int) (hv15 : R32 (v15)) => ?_)
    refine j_iconst dX12_keep_268 ?_
    refine j_iadd dX12_keep_269 ?_
    refine j_iastore (j_r32 4 rfl) (w32_R _) dX12_keep_270 (fun S16 => ?_)
    exact j_return dX12_keep_271
  · refine j_aload_n 0 dX12_keep_234 rfl rfl ?_
    refine j_getr (ci := 12) (k := 0) rfl in_X12 (Nat.le_of_ble_eq_true rfl) rfl rfl fl_X12_7 dX12_keep_235 (fun (v17 : Int) (hv17 : 0 ≤ v17) => ?_)
    refine j_iload_n 1 dX12_keep_238 rfl rfl ?_
    refine j_bipush dX12_keep_239 (by decide) ?_
    refine j_iadd dX12_keep_241 ?_
    refine j_iload_n 2 dX12_keep_242 rfl rfl ?_
    refine j_iadd dX12_keep_243 ?_
    refine j_aload_n 0 dX12_keep_244 rfl rfl ?_
    refine j_getr (ci := 12) (k := 0) rfl in_X12 (Nat.le_of_ble_eq_true rfl) rfl rfl fl_X12_7 dX12_keep_245 (fun (v18 : Int) (hv18 : 0 ≤ v18) => ?_)
    refine j_sipush dX12_keep_248 (by decide) ?_
    refine j_iload_n 2 dX12_keep_251 rfl rfl ?_
    refine j_iadd dX12_keep_252 ?_
    refine j_iaload (w32_R _) dX12_keep_253 (fun (v19 : Int) (hv19 : R32 (v19)) => ?_)
    refine j_iastore (w32_R _) hv19 dX12_keep_254 (fun S20 => ?_)
    refine j_iincL (q := 2) dX12_keep_255 rfl (Nat.le_of_ble_eq_true rfl) (fun v21 hv21 => ?_)
    refine j_lv (lv' := [(2, 0, v21), (0, 2, x0), (1, 0, x1)]) rfl ?_
    refine j_goto (tgt := 228) dX12_keep_258 rfl ?_
    refine j_sub [1, 2, 0] rfl ?_
    exact k228 x0 x1 v21 S20 h0 h1 hv21
def f_X12_keep_b228 : Int → Int → Int → jSt → Option (Int × jSt) := jrep (β := Int → Int → Int → jSt → Option (Int × jSt)) (fun _ _ _ _ => none) (fun r => f_X12_keep_b228B r) jN
theorem p_f_X12_keep_b228 {G : jG} {d : Nat} {S0 : jSt} (hd0 : 2 ≤ d) : ∀ (x0 : Int) (x1 : Int) (x2 : Int) (S : jSt), (0 ≤ (x0)) → (R32 (x1)) → (R32 (x2)) → J G yX12_keep cX12_keep 4 none d S0 228 [(0, 2, x0), (1, 0, x1), (2, 0, x2)] [] S (f_X12_keep_b228  x0 x1 x2 S) :=
  jrep_ind (P := fun (r : Int → Int → Int → jSt → Option (Int × jSt)) => ∀ (x0 : Int) (x1 : Int) (x2 : Int) (S : jSt), (0 ≤ (x0)) → (R32 (x1)) → (R32 (x2)) → J G yX12_keep cX12_keep 4 none d S0 228 [(0, 2, x0), (1, 0, x1), (2, 0, x2)] [] S (r x0 x1 x2 S)) (by intros; exact j_none) (fun r k => p_f_X12_keep_b228B hd0 k) jN
def f_X12_keep_b186B (r179 : Int → Int → Int → jSt → Option (Int × jSt)) (r186 : Int → Int → Int → Int → jSt → Option (Int × jSt)) (x0 : Int) (x1 : Int) (x2 : Int) (x3 : Int) (S : jSt) : Option (Int × jSt) :=
  if 13 ≤ x3 then flet (w32 (x2 + 1)) (fun v22 => r179 x0 x1 v22 S) else fgetr S x0 12 0 (fun v23 => fcallv S x0 12 (f_X12_own x0 x2 x3 S) (fun v24 S25 => fast S25 v23 (w32 ((w32 ((w32 (x1 + 30)) + (w32 (13 * x2)))) + x3)) 1 v24 (fun S26 => flet (w32 (x3 + 1)) (fun v27 => r186 x0 x1 x2 v27 S26))))
theorem p_f_X12_keep_b186B {G : jG} {d : Nat} {S0 : jSt} (hd0 : 2 ≤ d) {r179 : Int → Int → Int → jSt → Option (Int × jSt)} (k179 : ∀ (x0 : Int) (x1 : Int) (x2 : Int) (S : jSt), (0 ≤ (x0)) → (R32 (x1)) → (R32 (x2)) → J G yX12_keep cX12_keep 4 none d S0 179 [(0, 2, x0), (1, 0, x1), (2, 0, x2)] [] S (r179 x0 x1 x2 S)) {r186 : Int → Int → Int → Int → jSt → Option (Int × jSt)} (k186 : ∀ (x0 : Int) (x1 : Int) (x2 : Int) (x3 : Int) (S : jSt), (0 ≤ (x0)) → (R32 (x1)) → (R32 (x2)) → (R32 (x3)) → J G yX12_keep cX12_keep 4 none d S0 186 [(0, 2, x0), (1, 0, x1), (2, 0, x2), (3, 0, x3)] [] S (r186 x0 x1 x2 x3 S)) : ∀ (x0 : Int) (x1 : Int) (x2 : Int) (x3 : Int) (S : jSt), (0 ≤ (x0)) → (R32 (x1)) → (R32 (x2)) → (R32 (x3)) → J G yX12_keep cX12_keep 4 none d S0 186 [(0, 2, x0), (1, 0, x1), (2, 0, x2), (3, 0, x3)] [] S (f_X12_keep_b186B r179 r186 x0 x1 x2 x3 S) := by
  intro x0 x1 x2 x3 S h0 h1 h2 h3
  unfold f_X12_keep_b186B
  refine j_iload_n 3 dX12_keep_186 rfl rfl ?_
  refine j_bipush dX12_keep_187 (by decide) ?_
  refine j_icmp_ge (tgt := 220) h3 (j_r32 13 rfl) dX12_keep_189 rfl (fun _ => ?_) (fun _ => ?_)
  · refine j_iincL (q := 2) dX12_keep_220 rfl (Nat.le_of_ble_eq_true rfl) (fun v22 hv22 => ?_)
    refine j_lv (lv' := [(2, 0, v22), (0, 2, x0), (1, 0, x1), (3, 0, x3)]) rfl ?_
    refine j_goto (tgt := 179) dX12_keep_223 rfl ?_
    refine j_sub [1, 2, 0] rfl ?_
    exact k179 x0 x1 v22 S h0 h1 hv22
  · refine j_aload_n 0 dX12_keep_192 rfl rfl ?_
    refine j_getr (ci := 12) (k := 0) rfl in_X12 (Nat.le_of_ble_eq_true rfl) rfl rfl fl_X12_7 dX12_keep_193 (fun (v23 : Int) (hv23 : 0 ≤ v23) => ?_)
    refine j_iload_n 1 dX12_keep_196 rfl rfl ?_
    refine j_bipush dX12_keep_197 (by decide) ?_
    refine j_iadd dX12_keep_199 ?_
    refine j_bipush dX12_keep_200 (by decide) ?_
    refine j_iload_n 2 dX12_keep_202 rfl rfl ?_
    refine j_imul dX12_keep_203 ?_
    refine j_iadd dX12_keep_204 ?_
    refine j_iload_n 3 dX12_keep_205 rfl rfl ?_
    refine j_iadd dX12_keep_206 ?_
    refine j_aload_n 0 dX12_keep_207 rfl rfl ?_
    refine j_iload_n 2 dX12_keep_208 rfl rfl ?_
    refine j_iload_n 3 dX12_keep_209 rfl rfl ?_
    refine j_callV (ci := 12) (As := [(0, x2), (0, x3)]) (st := [(0, w32 ((w32 ((w32 (x1 + 30)) + (w32 (13 * x2)))) + x3)), (2, v23)]) kc_X12_own (c_X12_own x0 x2 x3 S h0 h2 h3) rfl lm_X12_299 ki_X12_own ke_X12_own rfl (Nat.le_of_ble_eq_true rfl) (Nat.le_trans (m := 2) (Nat.le_of_ble_eq_true rfl) hd0) dX12_keep_210 (fun (v24 : Int) (S25 : jSt) (hv24 : R32 (v24)) => ?_)
    refine j_iastore (w32_R _) hv24 dX12_keep_213 (fun S26 => ?_)
    refine j_iincL (q := 3) dX12_keep_214 rfl (Nat.le_of_ble_eq_true rfl) (fun v27 hv27 => ?_)
    refine j_lv (lv' := [(3, 0, v27), (0, 2, x0), (1, 0, x1), (2, 0, x2)]) rfl ?_
    refine j_goto (tgt := 186) dX12_keep_217 rfl ?_
    refine j_sub [1, 2, 3, 0] rfl ?_
    exact k186 x0 x1 x2 v27 S26 h0 h1 h2 hv27
def f_X12_keep_b186 (r179 : Int → Int → Int → jSt → Option (Int × jSt)) : Int → Int → Int → Int → jSt → Option (Int × jSt) := jrep (β := Int → Int → Int → Int → jSt → Option (Int × jSt)) (fun _ _ _ _ _ => none) (fun r => f_X12_keep_b186B r179 r) jN
theorem p_f_X12_keep_b186 {G : jG} {d : Nat} {S0 : jSt} (hd0 : 2 ≤ d) {r179 : Int → Int → Int → jSt → Option (Int × jSt)} (k179 : ∀ (x0 : Int) (x1 : Int) (x2 : Int) (S : jSt), (0 ≤ (x0)) → (R32 (x1)) → (R32 (x2)) → J G yX12_keep cX12_keep 4 none d S0 179 [(0, 2, x0), (1, 0, x1), (2, 0, x2)] [] S (r179 x0 x1 x2 S)) : ∀ (x0 : Int) (x1 : Int) (x2 : Int) (x3 : Int) (S : jSt), (0 ≤ (x0)) → (R32 (x1)) → (R32 (x2)) → (R32 (x3)) → J G yX12_keep cX12_keep 4 none d S0 186 [(0, 2, x0), (1, 0, x1), (2, 0, x2), (3, 0, x3)] [] S (f_X12_keep_b186 r179 x0 x1 x2 x3 S) :=
  jrep_ind (P := fun (r : Int → Int → Int → Int → jSt → Option (Int × jSt)) => ∀ (x0 : Int) (x1 : Int) (x2 : Int) (x3 : Int) (S : jSt), (0 ≤ (x0)) → (R32 (x1)) → (R32 (x2)) → (R32 (x3)) → J G yX12_keep cX12_keep 4 none d S0 186 [(0, 2, x0), (1, 0, x1), (2, 0, x2), (3, 0, x3)] [] S (r x0 x1 x2 x3 S)) (by intros; exact j_none) (fun r k => p_f_X12_keep_b186B hd0 k179 k) jN
def f_X12_keep_b179B (r179 : Int → Int → Int → jSt → Option (Int × jSt)) (x0 : Int) (x1 : Int) (x2 : Int) (S : jSt) : Option (Int × jSt) :=
  if 5 ≤ x2 then f_X12_keep_b228 x0 x1 0 S else f_X12_keep_b186 r179 x0 x1 x2 0 S
theorem p_f_X12_keep_b179B {G : jG} {d : Nat} {S0 : jSt} (hd0 : 2 ≤ d) {r179 : Int → Int → Int → jSt → Option (Int × jSt)} (k179 : ∀ (x0 : Int) (x1 : Int) (x2 : Int) (S : jSt), (0 ≤ (x0)) → (R32 (x1)) → (R32 (x2)) → J G yX12_keep cX12_keep 4 none d S0 179 [(0, 2, x0), (1, 0, x1), (2, 0, x2)] [] S (r179 x0 x1 x2 S)) : ∀ (x0 : Int) (x1 : Int) (x2 : Int) (S : jSt), (0 ≤ (x0)) → (R32 (x1)) → (R32 (x2)) → J G yX12_keep cX12_keep 4 none d S0 179 [(0, 2, x0), (1, 0, x1), (2, 0, x2)] [] S (f_X12_keep_b179B r179 x0 x1 x2 S) := by
  intro x0 x1 x2 S h0 h1 h2
  unfold f_X12_keep_b179B
  refine j_iload_n 2 dX12_keep_179 rfl rfl ?_
  refine j_iconst dX12_keep_180 ?_
  refine j_icmp_ge (tgt := 226) h2 (j_r32 5 rfl) dX12_keep_181 rfl (fun _ => ?_) (fun _ => ?_)
  · refine j_iconst dX12_keep_226 ?_
    refine j_istore_n (lv' := [(2, 0, 0), (0, 2, x0), (1, 0, x1)]) dX12_keep_227 rfl (Nat.le_of_ble_eq_true rfl) rfl ?_
    refine j_sub [1, 2, 0] rfl ?_
    exact p_f_X12_keep_b228 hd0 x0 x1 0 S h0 h1 (jZ_R jz0)
  · refine j_iconst dX12_keep_184 ?_
    refine j_istore_n (lv' := [(3, 0, 0), (0, 2, x0), (1, 0, x1), (2, 0, x2)]) dX12_keep_185 rfl (Nat.le_of_ble_eq_true rfl) rfl ?_
    refine j_sub [1, 2, 3, 0] rfl ?_
    exact p_f_X12_keep_b186 hd0 k179 x0 x1 x2 0 S h0 h1 h2 (jZ_R jz0)
def f_X12_keep_b179 : Int → Int → Int → jSt → Option (Int × jSt) := jrep (β := Int → Int → Int → jSt → Option (Int × jSt)) (fun _ _ _ _ => none) (fun r => f_X12_keep_b179B r) jN
theorem p_f_X12_keep_b179 {G : jG} {d : Nat} {S0 : jSt} (hd0 : 2 ≤ d) : ∀ (x0 : Int) (x1 : Int) (x2 : Int) (S : jSt), (0 ≤ (x0)) → (R32 (x1)) → (R32 (x2)) → J G yX12_keep cX12_keep 4 none d S0 179 [(0, 2, x0), (1, 0, x1), (2, 0, x2)] [] S (f_X12_keep_b179  x0 x1 x2 S) :=
  jrep_ind (P := fun (r : Int → Int → Int → jSt → Option (Int × jSt)) => ∀ (x0 : Int) (x1 : Int) (x2 : Int) (S : jSt), (0 ≤ (x0)) → (R32 (x1)) → (R32 (x2)) → J G yX12_keep cX12_keep 4 none d S0 179 [(0, 2, x0), (1, 0, x1), (2, 0, x2)] [] S (r x0 x1 x2 S)) (by intros; exact j_none) (fun r k => p_f_X12_keep_b179B hd0 k) jN
def f_X12_keep_b139B (r131 : Int → Int → Int → jSt → Option (Int × jSt)) (r139 : Int → Int → Int → Int → jSt → Option (Int × jSt)) (x0 : Int) (x1 : Int) (x2 : Int) (x3 : Int) (S : jSt) : Option (Int × jSt) :=
  if 2 ≤ x3 then flet (w32 (x2 + 1)) (fun v28 => r131 x0 x1 v28 S) else fgetr S x0 12 0 (fun v29 => fcallv S x0 12 (f_X12_get x0 x2 x3 S) (fun v30 S31 => fast S31 v29 (w32 ((w32 ((w32 (x1 + 6)) + (w32 (2 * x2)))) + x3)) 1 v30 (fun S32 => flet (w32 (x3 + 1)) (fun v33 => r139 x0 x1 x2 v33 S32))))
theorem p_f_X12_keep_b139B {G : jG} {d : Nat} {S0 : jSt} (hd0 : 2 ≤ d) {r131 : Int → Int → Int → jSt → Option (Int × jSt)} (k131 : ∀ (x0 : Int) (x1 : Int) (x2 : Int) (S : jSt), (0 ≤ (x0)) → (R32 (x1)) → (R32 (x2)) → J G yX12_keep cX12_keep 4 none d S0 131 [(0, 2, x0), (1, 0, x1), (2, 0, x2)] [] S (r131 x0 x1 x2 S)) {r139 : Int → Int → Int → Int → jSt → Option (Int × jSt)} (k139 : ∀ (x0 : Int) (x1 : Int) (x2 : Int) (x3 : Int) (S : jSt), (0 ≤ (x0)) → (R32 (x1)) → (R32 (x2)) → (R32 (x3)) → J G yX12_keep cX12_keep 4 none d S0 139 [(0, 2, x0), (1, 0, x1), (2, 0, x2), (3, 0, x3)] [] S (r139 x0 x1 x2 x3 S)) : ∀ (x0 : Int) (x1 : Int) (x2 : Int) (x3 : Int) (S : jSt), (0 ≤ (x0)) → (R32 (x1)) → (R32 (x2)) → (R32 (x3)) → J G yX12_keep cX12_keep 4 none d S0 139 [(0, 2, x0), (1, 0, x1), (2, 0, x2), (3, 0, x3)] [] S (f_X12_keep_b139B r131 r139 x0 x1 x2 x3 S) := by
  intro x0 x1 x2 x3 S h0 h1 h2 h3
  unfold f_X12_keep_b139B
  refine j_iload_n 3 dX12_keep_139 rfl rfl ?_
  refine j_iconst dX12_keep_140 ?_
  refine j_icmp_ge (tgt := 171) h3 (j_r32 2 rfl) dX12_keep_141 rfl (fun _ => ?_) (fun _ => ?_)
  · refine j_iincL (q := 2) dX12_keep_171 rfl (Nat.le_of_ble_eq_true rfl) (fun v28 hv28 => ?_)
    refine j_lv (lv' := [(2, 0, v28), (0, 2, x0), (1, 0, x1), (3, 0, x3)]) rfl ?_
    refine j_goto (tgt := 131) dX12_keep_174 rfl ?_
    refine j_sub [1, 2, 0] rfl ?_
    exact k131 x0 x1 v28 S h0 h1 hv28
  · refine j_aload_n 0 dX12_keep_144 rfl rfl ?_
    refine j_getr (ci := 12) (k := 0) rfl in_X12 (Nat.le_of_ble_eq_true rfl) rfl rfl fl_X12_7 dX12_keep_145 (fun (v29 : Int) (hv29 : 0 ≤ v29) => ?_)
    refine j_iload_n 1 dX12_keep_148 rfl rfl ?_
    refine j_bipush dX12_keep_149 (by decide) ?_
    refine j_iadd dX12_keep_151 ?_
    refine j_iconst dX12_keep_152 ?_
    refine j_iload_n 2 dX12_keep_153 rfl rfl ?_
    refine j_imul dX12_keep_154 ?_
    refine j_iadd dX12_keep_155 ?_
    refine j_iload_n 3 dX12_keep_156 rfl rfl ?_
    refine j_iadd dX12_keep_157 ?_
    refine j_aload_n 0 dX12_keep_158 rfl rfl ?_
    refine j_iload_n 2 dX12_keep_159 rfl rfl ?_
    refine j_iload_n 3 dX12_keep_160 rfl rfl ?_
    refine j_callV (ci := 12) (As := [(0, x2), (0, x3)]) (st := [(0, w32 ((w32 ((w32 (x1 + 6)) + (w32 (2 * x2)))) + x3)), (2, v29)]) kc_X12_get (c_X12_get x0 x2 x3 S h0 h2 h3) rfl lm_X12_68 ki_X12_get ke_X12_get rfl (Nat.le_of_ble_eq_true rfl) (Nat.le_trans (m := 2) (Nat.le_of_ble_eq_true rfl) hd0) dX12_keep_161 (fun (v30 : Int) (S31 : jSt) (hv30 : R32 (v30)) => ?_)
    refine j_iastore (w32_R _) hv30 dX12_keep_164 (fun S32 => ?_)
    refine j_iincL (q := 3) dX12_keep_165 rfl (Nat.le_of_ble_eq_true rfl) (fun v33 hv33 => ?_)
    refine j_lv (lv' := [(3, 0, v33), (0, 2, x0), (1, 0, x1), (2, 0, x2)]) rfl ?_
    refine j_goto (tgt := 139) dX12_keep_168 rfl ?_
    refine j_sub [1, 2, 3, 0] rfl ?_
    exact k139 x0 x1 x2 v33 S32 h0 h1 h2 hv33
def f_X12_keep_b139 (r131 : Int → Int → Int → jSt → Option (Int × jSt)) : Int → Int → Int → Int → jSt → Option (Int × jSt) := jrep (β := Int → Int → Int → Int → jSt → Option (Int × jSt)) (fun _ _ _ _ _ => none) (fun r => f_X12_keep_b139B r131 r) jN
theorem p_f_X12_keep_b139 {G : jG} {d : Nat} {S0 : jSt} (hd0 : 2 ≤ d) {r131 : Int → Int → Int → jSt → Option (Int × jSt)} (k131 : ∀ (x0 : Int) (x1 : Int) (x2 : Int) (S : jSt), (0 ≤ (x0)) → (R32 (x1)) → (R32 (x2)) → J G yX12_keep cX12_keep 4 none d S0 131 [(0, 2, x0), (1, 0, x1), (2, 0, x2)] [] S (r131 x0 x1 x2 S)) : ∀ (x0 : Int) (x1 : Int) (x2 : Int) (x3 : Int) (S : jSt), (0 ≤ (x0)) → (R32 (x1)) → (R32 (x2)) → (R32 (x3)) → J G yX12_keep cX12_keep 4 none d S0 139 [(0, 2, x0), (1, 0, x1), (2, 0, x2), (3, 0, x3)] [] S (f_X12_keep_b139 r131 x0 x1 x2 x3 S) :=
  jrep_ind (P := fun (r : Int → Int → Int → Int → jSt → Option (Int × jSt)) => ∀ (x0 : Int) (x1 : Int) (x2 : Int) (x3 : Int) (S : jSt), (0 ≤ (x0)) → (R32 (x1)) → (R32 (x2)) → (R32 (x3)) → J G yX12_keep cX12_keep 4 none d S0 139 [(0, 2, x0), (1, 0, x1), (2, 0, x2), (3, 0, x3)] [] S (r x0 x1 x2 x3 S)) (by intros; exact j_none) (fun r k => p_f_X12_keep_b139B hd0 k131 k) jN
def f_X12_keep_b131B (r131 : Int → Int → Int → jSt → Option (Int × jSt)) (x0 : Int) (x1 : Int) (x2 : Int) (S : jSt) : Option (Int × jSt) :=
  if 12 ≤ x2 then f_X12_keep_b179 x0 x1 0 S else f_X12_keep_b139 r131 x0 x1 x2 0 S
theorem p_f_X12_keep_b131B {G : jG} {d : Nat} {S0 : jSt} (hd0 : 2 ≤ d) {r131 : Int → Int → Int → jSt → Option (Int × jSt)} (k131 : ∀ (x0 : Int) (x1 : Int) (x2 : Int) (S : jSt), (0 ≤ (x0)) → (R32 (x1)) → (R32 (x2)) → J G yX12_keep cX12_keep 4 none d S0 131 [(0, 2, x0), (1, 0, x1), (2, 0, x2)] [] S (r131 x0 x1 x2 S)) : ∀ (x0 : Int) (x1 : Int) (x2 : Int) (S : jSt), (0 ≤ (x0)) → (R32 (x1)) → (R32 (x2)) → J G yX12_keep cX12_keep 4 none d S0 131 [(0, 2, x0), (1, 0, x1), (2, 0, x2)] [] S (f_X12_keep_b131B r131 x0 x1 x2 S) := by
  intro x0 x1 x2 S h0 h1 h2
  unfold f_X12_keep_b131B
  refine j_iload_n 2 dX12_keep_131 rfl rfl ?_
  refine j_bipush dX12_keep_132 (by decide) ?_
  refine j_icmp_ge (tgt := 177) h2 (j_r32 12 rfl) dX12_keep_134 rfl (fun _ => ?_) (fun _ => ?_)
  · refine j_iconst dX12_keep_177 ?_
    refine j_istore_n (lv' := [(2, 0, 0), (0, 2, x0), (1, 0, x1)]) dX12_keep_178 rfl (Nat.le_of_ble_eq_true rfl) rfl ?_
    refine j_sub [1, 2, 0] rfl ?_
    exact p_f_X12_keep_b179 hd0 x0 x1 0 S h0 h1 (jZ_R jz0)
  · refine j_iconst dX12_keep_137 ?_
    refine j_istore_n (lv' := [(3, 0, 0), (0, 2, x0), (1, 0, x1), (2, 0, x2)]) dX12_keep_138 rfl (Nat.le_of_ble_eq_true rfl) rfl ?_
    refine j_sub [1, 2, 3, 0] rfl ?_
    exact p_f_X12_keep_b139 hd0 k131 x0 x1 x2 0 S h0 h1 h2 (jZ_R jz0)
def f_X12_keep_b131 : Int → Int → Int → jSt → Option (Int × jSt) := jrep (β := Int → Int → Int → jSt → Option (Int × jSt)) (fun _ _ _ _ => none) (fun r => f_X12_keep_b131B r) jN
theorem p_f_X12_keep_b131 {G : jG} {d : Nat} {S0 : jSt} (hd0 : 2 ≤ d) : ∀ (x0 : Int) (x1 : Int) (x2 : Int) (S : jSt), (0 ≤ (x0)) → (R32 (x1)) → (R32 (x2)) → J G yX12_keep cX12_keep 4 none d S0 131 [(0, 2, x0), (1, 0, x1), (2, 0, x2)] [] S (f_X12_keep_b131  x0 x1 x2 S) :=
  jrep_ind (P := fun (r : Int → Int → Int → jSt → Option (Int × jSt)) => ∀ (x0 : Int) (x1 : Int) (x2 : Int) (S : jSt), (0 ≤ (x0)) → (R32 (x1)) → (R32 (x2)) → J G yX12_keep cX12_keep 4 none d S0 131 [(0, 2, x0), (1, 0, x1), (2, 0, x2)] [] S (r x0 x1 x2 S)) (by intros; exact j_none) (fun r k => p_f_X12_keep_b131B hd0 k) jN
def f_X12_keep_b99B (r99 : Int → Int → Int → jSt → Option (Int × jSt)) (x0 : Int) (x1 : Int) (x2 : Int) (S : jSt) : Option (Int × jSt) :=
  if 4 ≤ x2 then f_X12_keep_b131 x0 x1 0 S else fgetr S x0 12 0 (fun v34 => fgetr S x0 12 0 (fun v35 => fald S v35 (w32 (7 + x2)) 1 (fun v36 => fast S v34 (w32 ((w32 (x1 + 2)) + x2)) 1 v36 (fun S37 => flet (w32 (x2 + 1)) (fun v38 => r99 x0 x1 v38 S37)))))
theorem p_f_X12_keep_b99B {G : jG} {d : Nat} {S0 : jSt} (hd0 : 2 ≤ d) {r99 : Int → Int → Int → jSt → Option (Int × jSt)} (k99 : ∀ (x0 : Int) (x1 : Int) (x2 : Int) (S : jSt), (0 ≤ (x0)) → (R32 (x1)) → (R32 (x2)) → J G yX12_keep cX12_keep 4 none d S0 99 [(0, 2, x0), (1, 0, x1), (2, 0, x2)] [] S (r99 x0 x1 x2 S)) : ∀ (x0 : Int) (x1 : Int) (x2 : Int) (S : jSt), (0 ≤ (x0)) → (R32 (x1)) → (R32 (x2)) → J G yX12_keep cX12_keep 4 none d S0 99 [(0, 2, x0), (1, 0, x1), (2, 0, x2)] [] S (f_X12_keep_b99B r99 x0 x1 x2 S) := by
  intro x0 x1 x2 S h0 h1 h2
  unfold f_X12_keep_b99B
  refine j_iload_n 2 dX12_keep_99 rfl rfl ?_
  refine j_iconst dX12_keep_100 ?_
  refine j_icmp_ge (tgt := 129) h2 (j_r32 4 rfl) dX12_keep_101 rfl (fun _ => ?_) (fun _ => ?_)
  · refine j_iconst dX12_keep_129 ?_
    refine j_istore_n (lv' := [(2, 0, 0), (0, 2, x0), (1, 0, x1)]) dX12_keep_130 rfl (Nat.le_of_ble_eq_true rfl) rfl ?_
    refine j_sub [1, 2, 0] rfl ?_
    exact p_f_X12_keep_b131 hd0 x0 x1 0 S h0 h1 (jZ_R jz0)
  · refine j_aload_n 0 dX12_keep_104 rfl rfl ?_
    refine j_getr (ci := 12) (k := 0) rfl in_X12 (Nat.le_of_ble_eq_true rfl) rfl rfl fl_X12_7 dX12_keep_105 (fun (v34 : Int) (hv34 : 0 ≤ v34) => ?_)
    refine j_iload_n 1 dX12_keep_108 rfl rfl ?_
    refine j_iconst dX12_keep_109 ?_
    refine j_iadd dX12_keep_110 ?_
    refine j_iload_n 2 dX12_keep_111 rfl rfl ?_
    refine j_iadd dX12_keep_112 ?_
    refine j_aload_n 0 dX12_keep_113 rfl rfl ?_
    refine j_getr (ci := 12) (k := 0) rfl in_X12 (Nat.le_of_ble_eq_true rfl) rfl rfl fl_X12_7 dX12_keep_114 (fun (v35 : Int) (hv35 : 0 ≤ v35) => ?_)
    refine j_bipush dX12_keep_117 (by decide) ?_
    refine j_iload_n 2 dX12_keep_119 rfl rfl ?_
    refine j_iadd dX12_keep_120 ?_
    refine j_iaload (w32_R _) dX12_keep_121 (fun (v36 : Int) (hv36 : R32 (v36)) => ?_)
    refine j_iastore (w32_R _) hv36 dX12_keep_122 (fun S37 => ?_)
    refine j_iincL (q := 2) dX12_keep_123 rfl (Nat.le_of_ble_eq_true rfl) (fun v38 hv38 => ?_)
    refine j_lv (lv' := [(2, 0, v38), (0, 2, x0), (1, 0, x1)]) rfl ?_
    refine j_goto (tgt := 99) dX12_keep_126 rfl ?_
    refine j_sub [1, 2, 0] rfl ?_
    exact k99 x0 x1 v38 S37 h0 h1 hv38
def f_X12_keep_b99 : Int → Int → Int → jSt → Option (Int × jSt) := jrep (β := Int → Int → Int → jSt → Option (Int × jSt)) (fun _ _ _ _ => none) (fun r => f_X12_keep_b99B r) jN
theorem p_f_X12_keep_b99 {G : jG} {d : Nat} {S0 : jSt} (hd0 : 2 ≤ d) : ∀ (x0 : Int) (x1 : Int) (x2 : Int) (S : jSt), (0 ≤ (x0)) → (R32 (x1)) → (R32 (x2)) → J G yX12_keep cX12_keep 4 none d S0 99 [(0, 2, x0), (1, 0, x1), (2, 0, x2)] [] S (f_X12_keep_b99  x0 x1 x2 S) :=
  jrep_ind (P := fun (r : Int → Int → Int → jSt → Option (Int × jSt)) => ∀ (x0 : Int) (x1 : Int) (x2 : Int) (S : jSt), (0 ≤ (x0)) → (R32 (x1)) → (R32 (x2)) → J G yX12_keep cX12_keep 4 none d S0 99 [(0, 2, x0), (1, 0, x1), (2, 0, x2)] [] S (r x0 x1 x2 S)) (by intros; exact j_none) (fun r k => p_f_X12_keep_b99B hd0 k) jN
def f_X12_keep_b56 (x0 : Int) (S : jSt) : Option (Int × jSt) :=
  fgetr S x0 12 0 (fun v3 => fald S v3 4 1 (fun v4 => flet (w32 (193 + (w32 (155 * v4)))) (fun v5 => fgetr S x0 12 0 (fun v6 => fgetr S x0 12 0 (fun v7 => fald S v7 0 1 (fun v8 => fast S v6 v5 1 v8 (fun S9 => fgetr S9 x0 12 0 (fun v10 => fgetr S9 x0 12 0 (fun v11 => fald S9 v11 1 1 (fun v12 => fast S9 v10 (w32 (v5 + 1)) 1 v12 (fun S13 => f_X12_keep_b99 x0 v5 0 S13)))))))))))
theorem p_f_X12_keep_b56 {G : jG} {d : Nat} {S0 : jSt} (hd0 : 2 ≤ d) : ∀ (x0 : Int) (S : jSt), (0 ≤ (x0)) → J G yX12_keep cX12_keep 4 none d S0 56 [(0, 2, x0)] [] S (f_X12_keep_b56  x0 S) := by
  intro x0 S h0
  unfold f_X12_keep_b56
  refine j_sipush dX12_keep_56 (by decide) ?_
  refine j_sipush dX12_keep_59 (by decide) ?_
  refine j_aload_n 0 dX12_keep_62 rfl rfl ?_
  refine j_getr (ci := 12) (k := 0) rfl in_X12 (Nat.le_of_ble_eq_true rfl) rfl rfl fl_X12_7 dX12_keep_63 (fun (v3 : Int) (hv3 : 0 ≤ v3) => ?_)
  refine j_iconst dX12_keep_66 ?_
  refine j_iaload (j_r32 4 rfl) dX12_keep_67 (fun (v4 : Int) (hv4 : R32 (v4)) => ?_)
  refine j_imul dX12_keep_68 ?_
  refine j_iadd dX12_keep_69 ?_
  refine j_leti (w32_R _) (fun v5 hv5 => ?_)
  refine j_istore_n (lv' := [(1, 0, v5), (0, 2, x0)]) dX12_keep_70 rfl (Nat.le_of_ble_eq_true rfl) rfl ?_
  refine j_aload_n 1 dX12_keep_71 rfl rfl ?_
  refine j_getr (ci := 12) (k := 0) rfl in_X12 (Nat.le_of_ble_eq_true rfl) rfl rfl fl_X12_7 dX12_keep_72 (fun (v6 : Int) (hv6 : 0 ≤ v6) => ?_)
  refine j_iload_n 0 dX12_keep_75 rfl rfl ?_
  refine j_aload_n 1 dX12_keep_76 rfl rfl ?_
  refine j_getr (ci := 12) (k := 0) rfl in_X12 (Nat.le_of_ble_eq_true rfl) rfl rfl fl_X12_7 dX12_keep_77 (fun (v7 : Int) (hv7 : 0 ≤ v7) => ?_)
  refine j_iconst dX12_keep_80 ?_
  refine j_iaload (jZ_R jz0) dX12_keep_81 (fun (v8 : Int) (hv8 : R32 (v8)) => ?_)
  refine j_iastore hv5 hv8 dX12_keep_82 (fun S9 => ?_)
  refine j_aload_n 1 dX12_keep_83 rfl rfl ?_
  refine j_getr (ci := 12) (k := 0) rfl in_X12 (Nat.le_of_ble_eq_true rfl) rfl rfl fl_X12_7 dX12_keep_84 (fun (v10 : Int) (hv10 : 0 ≤ v10) => ?_)
  refine j_iload_n 0 dX12_keep_87 rfl rfl ?_
  refine j_iconst dX12_keep_88 ?_
  refine j_iadd dX12_keep_89 ?_
  refine j_aload_n 1 dX12_keep_90 rfl rfl ?_
  refine j_getr (ci := 12) (k := 0) rfl in_X12 (Nat.le_of_ble_eq_true rfl) rfl rfl fl_X12_7 dX12_keep_91 (fun (v11 : Int) (hv11 : 0 ≤ v11) => ?_)
  refine j_iconst dX12_keep_94 ?_
  refine j_iaload (jZ_R jz1) dX12_keep_95 (fun (v12 : Int) (hv12 : R32 (v12)) => ?_)
  refine j_iastore (w32_R _) hv12 dX12_keep_96 (fun S13 => ?_)
  refine j_iconst dX12_keep_97 ?_
  refine j_istore_n (lv' := [(2, 0, 0), (1, 0, v5), (0, 2, x0)]) dX12_keep_98 rfl (Nat.le_of_ble_eq_true rfl) rfl ?_
  refine j_sub [2, 1, 0] rfl ?_
  exact p_f_X12_keep_b99 hd0 x0 v5 0 S13 h0 hv5 (jZ_R jz0)
def f_X12_keep_b13B (r13 : Int → Int → jSt → Option (Int × jSt)) (x0 : Int) (x1 : Int) (S : jSt) : Option (Int × jSt) :=
  if 4495 ≤ x1 then fgetr S x0 12 0 (fun v39 => fald S v39 4 1 (fun v40 => fast S v39 4 1 (w32 (v40 - 1)) (fun S41 => f_X12_keep_b56 x0 S41))) else fgetr S x0 12 0 (fun v42 => fgetr S x0 12 0 (fun v43 => fald S v43 (w32 (348 + x1)) 1 (fun v44 => fast S v42 (w32 (193 + x1)) 1 v44 (fun S45 => flet (w32 (x1 + 1)) (fun v46 => r13 x0 v46 S45)))))
theorem p_f_X12_keep_b13B {G : jG} {d : Nat} {S0 : jSt} (hd0 : 2 ≤ d) {r13 : Int → Int → jSt → Option (Int × jSt)} (k13 : ∀ (x0 : Int) (x1 : Int) (S : jSt), (0 ≤ (x0)) → (R32 (x1)) → J G yX12_keep cX12_keep 4 none d S0 13 [(0, 2, x0), (1, 0, x1)] [] S (r13 x0 x1 S)) : ∀ (x0 : Int) (x1 : Int) (S : jSt), (0 ≤ (x0)) → (R32 (x1)) → J G yX12_keep cX12_keep 4 none d S0 13 [(0, 2, x0), (1, 0, x1)] [] S (f_X12_keep_b13B r13 x0 x1 S) := by
  intro x0 x1 S h0 h1
  unfold f_X12_keep_b13B
  refine j_iload_n 1 dX12_keep_13 rfl rfl ?_
  refine j_sipush dX12_keep_14 (by decide) ?_
  refine j_icmp_ge (tgt := 46) h1 (j_r32 4495 rfl) dX12_keep_17 rfl (fun _ => ?_) (fun _ => ?_)
  · refine j_aload_n 0 dX12_keep_46 rfl rfl ?_
    refine j_getr (ci := 12) (k := 0) rfl in_X12 (Nat.le_of_ble_eq_true rfl) rfl rfl fl_X12_7 dX12_keep_47 (fun (v39 : Int) (hv39 : 0 ≤ v39) => ?_)
    refine j_iconst dX12_keep_50 ?_
    refine j_dup2 dX12_keep_51 (fun h => nomatch h) (fun h => nomatch h) ?_
    refine j_iaload (j_r32 4 rfl) dX12_keep_52 (fun (v40 : Int) (hv40 : R32 (v40)) => ?_)
    refine j_iconst dX12_keep_53 ?_
    refine j_isub dX12_keep_54 ?_
    refine j_iastore (j_r32 4 rfl) (w32_R _) dX12_keep_55 (fun S41 => ?_)
    refine j_sub [0] rfl ?_
    exact p_f_X12_keep_b56 hd0 x0 S41 h0
  · refine j_aload_n 0 dX12_keep_20 rfl rfl ?_
    refine j_getr (ci := 12) (k := 0) rfl in_X12 (Nat.le_of_ble_eq_true rfl) rfl rfl fl_X12_7 dX12_keep_21 (fun (v42 : Int) (hv42 : 0 ≤ v42) => ?_)
    refine j_sipush dX12_keep_24 (by decide) ?_
    refine j_iload_n 1 dX12_keep_27 rfl rfl ?_
    refine j_iadd dX12_keep_28 ?_
    refine j_aload_n 0 dX12_keep_29 rfl rfl ?_
    refine j_getr (ci := 12) (k := 0) rfl in_X12 (Nat.le_of_ble_eq_true rfl) rfl rfl fl_X12_7 dX12_keep_30 (fun (v43 : Int) (hv43 : 0 ≤ v43) => ?_)
    refine j_sipush dX12_keep_33 (by decide) ?_
    refine j_iload_n 1 dX12_keep_36 rfl rfl ?_
    refine j_iadd dX12_keep_37 ?_
    refine j_iaload (w32_R _) dX12_keep_38 (fun (v44 : Int) (hv44 : R32 (v44)) => ?_)
    refine j_iastore (w32_R _) hv44 dX12_keep_39 (fun S45 => ?_)
    refine j_iincL (q := 1) dX12_keep_40 rfl (Nat.le_of_ble_eq_true rfl) (fun v46 hv46 => ?_)
    refine j_lv (lv' := [(1, 0, v46), (0, 2, x0)]) rfl ?_
    refine j_goto (tgt := 13) dX12_keep_43 rfl ?_
    refine j_sub [1, 0] rfl ?_
    exact k13 x0 v46 S45 h0 hv46
def f_X12_keep_b13 : Int → Int → jSt → Option (Int × jSt) := jrep (β := Int → Int → jSt → Option (Int × jSt)) (fun _ _ _ => none) (fun r => f_X12_keep_b13B r) jN
theorem p_f_X12_keep_b13 {G : jG} {d : Nat} {S0 : jSt} (hd0 : 2 ≤ d) : ∀ (x0 : Int) (x1 : Int) (S : jSt), (0 ≤ (x0)) → (R32 (x1)) → J G yX12_keep cX12_keep 4 none d S0 13 [(0, 2, x0), (1, 0, x1)] [] S (f_X12_keep_b13  x0 x1 S) :=
  jrep_ind (P := fun (r : Int → Int → jSt → Option (Int × jSt)) => ∀ (x0 : Int) (x1 : Int) (S : jSt), (0 ≤ (x0)) → (R32 (x1)) → J G yX12_keep cX12_keep 4 none d S0 13 [(0, 2, x0), (1, 0, x1)] [] S (r x0 x1 S)) (by intros; exact j_none) (fun r k => p_f_X12_keep_b13B hd0 k) jN
def f_X12_keep (a0 : Int) (S : jSt) : Option (Int × jSt) :=
  fgetr S a0 12 0 (fun v1 => fald S v1 4 1 (fun v2 => if v2 = 30 then f_X12_keep_b13 a0 0 S else f_X12_keep_b56 a0 S))
theorem e_X12_keep {G : jG} {d : Nat} {S0 : jSt} (hd0 : 2 ≤ d) (a0 : Int) (S : jSt) (h0 : 0 ≤ (a0)) : J G yX12_keep cX12_keep 4 none d S0 0 [(0, 2, a0)] [] S (f_X12_keep a0 S) := by
  unfold f_X12_keep
  refine j_aload_n 0 dX12_keep_0 rfl rfl ?_
  refine j_getr (ci := 12) (k := 0) rfl in_X12 (Nat.le_of_ble_eq_true rfl) rfl rfl fl_X12_7 dX12_keep_1 (fun (v1 : Int) (hv1 : 0 ≤ v1) => ?_)
  refine j_iconst dX12_keep_4 ?_
  refine j_iaload (j_r32 4 rfl) dX12_keep_5 (fun (v2 : Int) (hv2 : R32 (v2)) => ?_)
  refine j_bipush dX12_keep_6 (by decide) ?_
  refine j_icmp_ne (tgt := 56) hv2 (j_r32 30 rfl) dX12_keep_8 rfl (fun _ => ?_) (fun _ => ?_)
  · exact p_f_X12_keep_b56 hd0 a0 S h0
  · refine j_iconst dX12_keep_11 ?_
    refine j_istore_n (lv' := [(1, 0, 0), (0, 2, a0)]) dX12_keep_12 rfl (Nat.le_of_ble_eq_true rfl) rfl ?_
    refine j_sub [1, 0] rfl ?_
    exact p_f_X12_keep_b13 hd0 a0 0 S h0 (jZ_R jz0)
theorem c_X12_keep {G : jG} (a0 : Int) (S : jSt) (h0 : 0 ≤ (a0)) : CT G yX12_keep cX12_keep 4 none 2 ([(2, a0)].map jval) S (f_X12_keep a0 S) := ct_of [(2, a0)] (by decide) rfl (Nat.le_of_ble_eq_true rfl) (e_X12_keep (Nat.le_refl _) a0 S h0)
