-- X6_rules
def f_X6_rules_b20 (x0 : Int) (S : jSt) : Option (Int × jSt) :=
  some (x0, S)
theorem p_f_X6_rules_b20 {G : jG} {d : Nat} {S0 : jSt} (hd0 : 1 ≤ d) : ∀ (x0 : Int) (S : jSt), ((x0) = 0 ∨ (x0) = 1) → J G yX6_rules cX6_rules 2 (some .boolean) d S0 20 [] [(0, x0)] S (f_X6_rules_b20  x0 S) := by
  intro x0 S h0
  unfold f_X6_rules_b20
  exact j_zreturn h0 dX6_rules_20
def f_X6_rules (a0 : Int) (a1 : Int) (S : jSt) : Option (Int × jSt) :=
  fgetr S a0 6 4 (fun v1 => fald S v1 a1 1 (fun v2 => fgetr S a0 6 3 (fun v3 => fald S v3 a1 1 (fun v4 => if v2 ≤ v4 then f_X6_rules_b20 0 S else f_X6_rules_b20 1 S))))
theorem e_X6_rules {G : jG} {d : Nat} {S0 : jSt} (hd0 : 1 ≤ d) (a0 : Int) (a1 : Int) (S : jSt) (h0 : 0 ≤ (a0)) (h1 : R32 (a1)) : J G yX6_rules cX6_rules 2 (some .boolean) d S0 0 [(0, 2, a0), (1, 0, a1)] [] S (f_X6_rules a0 a1 S) := by
  unfold f_X6_rules
  refine j_aload_n 0 dX6_rules_0 rfl rfl ?_
  refine j_getr (ci := 6) (k := 4) rfl in_X6 (Nat.le_of_ble_eq_true rfl) rfl rfl fl_X6_23 dX6_rules_1 (fun (v1 : Int) (hv1 : 0 ≤ v1) => ?_)
  refine j_iload_n 1 dX6_rules_4 rfl rfl ?_
  refine j_iaload h1 dX6_rules_5 (fun (v2 : Int) (hv2 : R32 (v2)) => ?_)
  refine j_aload_n 0 dX6_rules_6 rfl rfl ?_
  refine j_getr (ci := 6) (k := 3) rfl in_X6 (Nat.le_of_ble_eq_true rfl) rfl rfl fl_X6_20 dX6_rules_7 (fun (v3 : Int) (hv3 : 0 ≤ v3) => ?_)
  refine j_iload_n 1 dX6_rules_10 rfl rfl ?_
  refine j_iaload h1 dX6_rules_11 (fun (v4 : Int) (hv4 : R32 (v4)) => ?_)
  refine j_icmp_le (tgt := 19) hv2 hv4 dX6_rules_12 rfl (fun _ => ?_) (fun _ => ?_)
  · refine j_iconst dX6_rules_19 ?_
    refine j_sub [] rfl ?_
    exact p_f_X6_rules_b20 hd0 0 S jz0
  · refine j_iconst dX6_rules_15 ?_
    refine j_goto (tgt := 20) dX6_rules_16 rfl ?_
    refine j_sub [] rfl ?_
    exact p_f_X6_rules_b20 hd0 1 S jz1
theorem c_X6_rules {G : jG} (a0 : Int) (a1 : Int) (S : jSt) (h0 : 0 ≤ (a0)) (h1 : R32 (a1)) : CT G yX6_rules cX6_rules 2 (some .boolean) 1 ([(2, a0), (0, a1)].map jval) S (f_X6_rules a0 a1 S) := ct_of [(2, a0), (0, a1)] (by decide) rfl (Nat.le_of_ble_eq_true rfl) (e_X6_rules (Nat.le_refl _) a0 a1 S h0 h1)
-- X5_bidOf
def f_X5_bidOf_b56 (x0 : Int) (x1 : Int) (x2 : Int) (S : jSt) : Option (Int × jSt) :=
  fgetr S x0 1 2 (fun v10 => fald S v10 x1 1 (fun v11 => some (imax 0 (imin v11 x2), S)))
theorem p_f_X5_bidOf_b56 {G : jG} {d : Nat} {S0 : jSt} (hd0 : 3 ≤ d) : ∀ (x0 : Int) (x1 : Int) (x2 : Int) (S : jSt), (0 ≤ (x0)) → (R32 (x1)) → (R32 (x2)) → J G yX5_bidOf cX5_bidOf 6 (some .int) d S0 56 [(1, 2, x0), (2, 0, x1)] [(0, x2)] S (f_X5_bidOf_b56  x0 x1 x2 S) := by
  intro x0 x1 x2 S h0 h1 h2
  unfold f_X5_bidOf_b56
  refine j_istore (lv' := [(5, 0, x2), (1, 2, x0), (2, 0, x1)]) dX5_bidOf_56 (Nat.le_of_ble_eq_true rfl) rfl ?_
  refine j_iconst dX5_bidOf_58 ?_
  refine j_aload_n 1 dX5_bidOf_59 rfl rfl ?_
  refine j_getr (ci := 1) (k := 2) rfl in_X1 (Nat.le_of_ble_eq_true rfl) rfl rfl fl_X5_71 dX5_bidOf_60 (fun (v10 : Int) (hv10 : 0 ≤ v10) => ?_)
  refine j_iload_n 2 dX5_bidOf_63 rfl rfl ?_
  refine j_iaload h1 dX5_bidOf_64 (fun (v11 : Int) (hv11 : R32 (v11)) => ?_)
  refine j_iload 0 dX5_bidOf_65 rfl ?_
  refine j_mmin hv11 h2 lx_X5_54 mx_s_mmin mx_i mx_c_mmin (Nat.le_of_ble_eq_true rfl) (Nat.le_trans (Nat.le_of_ble_eq_true rfl) hd0) dX5_bidOf_67 ?_
  refine j_mmax (jZ_R jz0) (imin_R hv11 h2) lx_X5_60 mx_s_mmax mx_i mx_c_mmax (Nat.le_of_ble_eq_true rfl) (Nat.le_trans (Nat.le_of_ble_eq_true rfl) hd0) dX5_bidOf_70 ?_
  exact j_ireturn (imax_R (jZ_R jz0) (imin_R hv11 h2)) dX5_bidOf_73
def f_X5_bidOf_b30 (x0 : Int) (x1 : Int) (x2 : Int) (S : jSt) : Option (Int × jSt) :=
  fgetr S x0 1 3 (fun v6 => fcall (f_X11_wantAt x1 x2 S) (fun v7 S8 => fald S8 v6 v7 1 (fun v9 => f_X5_bidOf_b56 x0 x1 v9 S8)))
theorem p_f_X5_bidOf_b30 {G : jG} {d : Nat} {S0 : jSt} (hd0 : 3 ≤ d) : ∀ (x0 : Int) (x1 : Int) (x2 : Int) (S : jSt), (0 ≤ (x0)) → (R32 (x1)) → (R32 (x2)) → J G yX5_bidOf cX5_bidOf 6 (some .int) d S0 30 [(1, 2, x0), (2, 0, x1), (3, 0, x2)] [] S (f_X5_bidOf_b30  x0 x1 x2 S) := by
  intro x0 x1 x2 S h0 h1 h2
  unfold f_X5_bidOf_b30
  refine j_aload_n 0 dX5_bidOf_30 rfl rfl ?_
  refine j_getr (ci := 1) (k := 3) rfl in_X1 (Nat.le_of_ble_eq_true rfl) rfl rfl fl_X5_63 dX5_bidOf_31 (fun (v6 : Int) (hv6 : 0 ≤ v6) => ?_)
  refine j_iload_n 1 dX5_bidOf_34 rfl rfl ?_
  refine j_iload_n 2 dX5_bidOf_35 rfl rfl ?_
  refine j_callSN (As := [(0, x1), (0, x2)]) (st := [(2, v6)]) (host := RX11) kc_X11_wantAt (c_X11_wantAt x1 x2 S h1 h2) (by decide +kernel) ks_X11_wantAt rfl (Nat.le_of_ble_eq_true rfl) (Nat.le_trans (m := 3) (Nat.le_of_ble_eq_true rfl) hd0) dX5_bidOf_36 (fun (v7 : Int) (S8 : jSt) (hv7 : R32 (v7)) => ?_)
  refine j_iaload hv7 dX5_bidOf_39 (fun (v9 : Int) (hv9 : R32 (v9)) => ?_)
  refine j_goto (tgt := 56) dX5_bidOf_40 rfl ?_
  refine j_sub [0, 1] rfl ?_
  exact p_f_X5_bidOf_b56 hd0 x0 x1 v9 S8 h0 h1 hv9
def f_X5_bidOf (a0 : Int) (a1 : Int) (a2 : Int) (a3 : Int) (S : jSt) : Option (Int × jSt) :=
  fgetr S a0 5 2 (fun v1 => fgetr S a0 5 2 (fun v2 => fget S v2 10 6 (fun v3 => fcallv S v1 10 (f_X10_scriptOf v1 v3 S) (fun v4 S5 => if v4 < 0 then f_X5_bidOf_b30 a1 a2 a3 S5 else if 0 ≤ v4 then fcallv S5 v4 6 (f_X6_rules v4 1 S5) (fun v12 S13 => if v12 = 0 then f_X5_bidOf_b30 a1 a2 a3 S13 else fgetr S13 a0 5 3 (fun v14 => fcallv S13 v14 2 (f_X2_value v14 v4 1 a1 a3 a2 S13) (fun v15 S16 => f_X5_bidOf_b56 a1 a2 v15 S16))) else none))))
theorem e_X5_bidOf {G : jG} {d : Nat} {S0 : jSt} (hd0 : 3 ≤ d) (a0 : Int) (a1 : Int) (a2 : Int) (a3 : Int) (S : jSt) (h0 : 0 ≤ (a0)) (h1 : 0 ≤ (a1)) (h2 : R32 (a2)) (h3 : R32 (a3)) : J G yX5_bidOf cX5_bidOf 6 (some .int) d S0 0 [(0, 2, a0), (1, 2, a1), (2, 0, a2), (3, 0, a3)] [] S (f_X5_bidOf a0 a1 a2 a3 S) := by
  unfold f_X5_bidOf
  refine j_aload_n 0 dX5_bidOf_0 rfl rfl ?_
  refine j_getr (ci := 5) (k := 2) rfl in_X5 (Nat.le_of_ble_eq_true rfl) rfl rfl fl_X5_18 dX5_bidOf_1 (fun (v1 : Int) (hv1 : 0 ≤ v1) => ?_)
  refine j_aload_n 0 dX5_bidOf_4 rfl rfl ?_
  refine j_getr (ci := 5) (k := 2) rfl in_X5 (Nat.le_of_ble_eq_true rfl) rfl rfl fl_X5_18 dX5_bidOf_5 (fun (v2 : Int) (hv2 : 0 ≤ v2) => ?_)
  refine j_get (ci := 10) (k := 6) (t := 0) rfl in_X10 (Nat.le_of_ble_eq_true rfl) rfl rfl fl_X5_31 dX5_bidOf_8 (fun (v3 : Int) (hv3 : R32 (v3)) => ?_)
  refine j_callV (ci := 10) (As := [(0, v3)]) (st := []) kc_X10_scriptOf (c_X10_scriptOf v1 v3 S hv1 hv3) rfl lm_X5_36 ki_X10_scriptOf ke_X10_scriptOf rfl (Nat.le_of_ble_eq_true rfl) (Nat.le_trans (m := 3) (Nat.le_of_ble_eq_true rfl) hd0) dX5_bidOf_11 (fun v4 S5 _ => ?_)
  refine j_astoreq (lv' := [(4, 3, v4), (0, 2, a0), (1, 2, a1), (2, 0, a2), (3, 0, a3)]) dX5_bidOf_14 (Nat.le_of_ble_eq_true rfl) rfl ?_
  refine j_aloadq 0 dX5_bidOf_16 rfl ?_
  refine j_ifnull (tgt := 30) dX5_bidOf_18 rfl (fun _ => ?_) (fun _ => ?_)
  · refine j_sub [2, 3, 4] rfl ?_
    exact p_f_X5_bidOf_b30 hd0 a1 a2 a3 S5 h1 h2 h3
  · refine j_aloadq 0 dX5_bidOf_21 rfl ?_
    refine j_iconst dX5_bidOf_23 ?_
    refine j_cast (z := v4) (st' := [(0, 1), (2, v4)]) (fun h => by simp only [List.map_cons, jpush, jtag, jval3r h]) (fun hq24 => ?_)
    refine j_callV (ci := 6) (As := [(0, 1)]) (st := []) kc_X6_rules (c_X6_rules v4 1 S5 hq24 (jZ_R jz1)) rfl lm_X5_40 ki_X6_rules ke_X6_rules rfl (Nat.le_of_ble_eq_true rfl) (Nat.le_trans (m := 3) (Nat.le_of_ble_eq_true rfl) hd0) dX5_bidOf_24 (fun (v12 : Int) (S13 : jSt) (hv12 : (v12) = 0 ∨ (v12) = 1) => ?_)
    refine j_if_ne (tgt := 43) (jZ_R hv12) dX5_bidOf_27 rfl (fun _ => ?_) (fun _ => ?_)
    · refine j_aload_n 1 dX5_bidOf_43 rfl rfl ?_
      refine j_getr (ci := 5) (k := 3) rfl in_X5 (Nat.le_of_ble_eq_true rfl) rfl rfl fl_X5_27 dX5_bidOf_44 (fun (v14 : Int) (hv14 : 0 ≤ v14) => ?_)
      refine j_aloadq 0 dX5_bidOf_47 rfl ?_
      refine j_iconst dX5_bidOf_49 ?_
      refine j_aload_n 2 dX5_bidOf_50 rfl rfl ?_
      refine j_iload_n 4 dX5_bidOf_51 rfl rfl ?_
      refine j_iload_n 3 dX5_bidOf_52 rfl rfl ?_
      refine j_callV (ci := 2) (As := [(3, v4), (0, 1), (2, a1), (0, a3), (0, a2)]) (st := []) kc_X2_value (c_X2_value v14 v4 1 a1 a3 a2 S13 hv14 (jZ_R jz1) h1 h3 h2) rfl lm_X5_50 ki_X2_value ke_X2_value rfl (Nat.le_of_ble_eq_true rfl) (Nat.le_trans (m := 3) (Nat.le_of_ble_eq_true rfl) hd0) dX5_bidOf_53 (fun (v15 : Int) (S16 : jSt) (hv15 : R32 (v15)) => ?_)
      refine j_sub [2, 3] rfl ?_
      exact p_f_X5_bidOf_b56 hd0 a1 a2 v15 S16 h1 h2 hv15
    · refine j_sub [2, 3, 4] rfl ?_
      exact p_f_X5_bidOf_b30 hd0 a1 a2 a3 S13 h1 h2 h3
theorem c_X5_bidOf {G : jG} (a0 : Int) (a1 : Int) (a2 : Int) (a3 : Int) (S : jSt) (h0 : 0 ≤ (a0)) (h1 : 0 ≤ (a1)) (h2 : R32 (a2)) (h3 : R32 (a3)) : CT G yX5_bidOf cX5_bidOf 6 (some .int) 3 ([(2, a0), (2, a1), (0, a2), (0, a3)].map jval) S (f_X5_bidOf a0 a1 a2 a3 S) := ct_of [(2, a0), (2, a1), (0, a2), (0, a3)] (by decide) rfl (Nat.le_of_ble_eq_true rfl) (e_X5_bidOf (Nat.le_refl _) a0 a1 a2 a3 S h0 h1 h2 h3)
-- X10_hasLot
def f_X10_hasLot (a0 : Int) (a1 : Int) (S : jSt) : Option (Int × jSt) :=
  fget S a0 10 0 (fun v1 => fcall (f_X11_within a1 0 (w32 (v1 - 1)) S) (fun v2 S3 => some (v2, S3)))
theorem e_X10_hasLot {G : jG} {d : Nat} {S0 : jSt} (hd0 : 2 ≤ d) (a0 : Int) (a1 : Int) (S : jSt) (h0 : 0 ≤ (a0)) (h1 : R32 (a1)) : J G yX10_hasLot cX10_hasLot 2 (some .boolean) d S0 0 [(0, 2, a0), (1, 0, a1)] [] S (f_X10_hasLot a0 a1 S) := by
  unfold f_X10_hasLot
  refine j_iload_n 1 dX10_hasLot_0 rfl rfl ?_
  refine j_iconst dX10_hasLot_1 ?_
  refine j_aload_n 0 dX10_hasLot_2 rfl rfl ?_
  refine j_get (ci := 10) (k := 0) (t := 0) rfl in_X10 (Nat.le_of_ble_eq_true rfl) rfl rfl fl_X10_57 dX10_hasLot_3 (fun (v1 : Int) (hv1 : R32 (v1)) => ?_)
  refine j_iconst dX10_hasLot_6 ?_
  refine j_isub dX10_hasLot_7 ?_
  refine j_callSN (As := [(0, a1), (0, 0), (0, w32 (v1 - 1))]) (st := []) (host := RX11) kc_X11_within (c_X11_within a1 0 (w32 (v1 - 1)) S h1 (jZ_R jz0) (w32_R _)) (by decide +kernel) ks_X11_within rfl (Nat.le_of_ble_eq_true rfl) (Nat.le_trans (m := 2) (Nat.le_of_ble_eq_true rfl) hd0) dX10_hasLot_8 (fun (v2 : Int) (S3 : jSt) (hv2 : (v2) = 0 ∨ (v2) = 1) => ?_)
  exact j_zreturn hv2 dX10_hasLot_11
theorem c_X10_hasLot {G : jG} (a0 : Int) (a1 : Int) (S : jSt) (h0 : 0 ≤ (a0)) (h1 : R32 (a1)) : CT G yX10_hasLot cX10_hasLot 2 (some .boolean) 2 ([(2, a0), (0, a1)].map jval) S (f_X10_hasLot a0 a1 S) := ct_of [(2, a0), (0, a1)] (by decide) rfl (Nat.le_of_ble_eq_true rfl) (e_X10_hasLot (Nat.le_refl _) a0 a1 S h0 h1)
-- X5_canSell
def f_X5_canSell_b35 (x0 : Int) (S : jSt) : Option (Int × jSt) :=
  some (x0, S)
theorem p_f_X5_canSell_b35 {G : jG} {d : Nat} {S0 : jSt} (hd0 : 3 ≤ d) : ∀ (x0 : Int) (S : jSt), ((x0) = 0 ∨ (x0) = 1) → J G yX5_canSell cX5_canSell 3 (some .boolean) d S0 35 [] [(0, x0)] S (f_X5_canSell_b35  x0 S) := by
  intro x0 S h0
  unfold f_X5_canSell_b35
  exact j_zreturn h0 dX5_canSell_35
def f_X5_canSell_b34 (S : jSt) : Option (Int × jSt) :=
  f_X5_canSell_b35 0 S
theorem p_f_X5_canSell_b34 {G : jG} {d : Nat} {S0 : jSt} (hd0 : 3 ≤ d) : ∀ (S : jSt), J G yX5_canSell cX5_canSell 3 (some .boolean) d S0 34 [] [] S (f_X5_canSell_b34   S) := by
  intro S
  unfold f_X5_canSell_b34
  refine j_iconst dX5_canSell_34 ?_
  exact p_f_X5_canSell_b35 hd0 0 S jz0
def f_X5_canSell (a0 : Int) (a1 : Int) (a2 : Int) (S : jSt) : Option (Int × jSt) :=
  fgetr S a0 5 2 (fun v1 => fcallv S v1 10 (f_X10_hasLot v1 a2 S) (fun v2 S3 => if v2 = 0 then f_X5_canSell_b34 S3 else fgetr S3 a1 1 0 (fun v4 => fald S3 v4 a2 1 (fun v5 => if v5 = 0 then fgetr S3 a0 5 2 (fun v6 => fget S3 v6 10 1 (fun v7 => if v7 ≤ 0 then f_X5_canSell_b34 S3 else f_X5_canSell_b35 1 S3)) else f_X5_canSell_b34 S3))))
theorem e_X5_canSell {G : jG} {d : Nat} {S0 : jSt} (hd0 : 3 ≤ d) (a0 : Int) (a1 : Int) (a2 : Int) (S : jSt) (h0 : 0 ≤ (a0)) (h1 : 0 ≤ (a1)) (h2 : R32 (a2)) : J G yX5_canSell cX5_canSell 3 (some .boolean) d S0 0 [(0, 2, a0), (1, 2, a1), (2, 0, a2)] [] S (f_X5_canSell a0 a1 a2 S) := by
  unfold f_X5_canSell
  refine j_aload_n 0 dX5_canSell_0 rfl rfl ?_
  refine j_getr (ci := 5) (k := 2) rfl in_X5 (Nat.le_of_ble_eq_true rfl) rfl rfl fl_X5_18 dX5_canSell_1 (fun (v1 : Int) (hv1 : 0 ≤ v1) => ?_)
  refine j_iload_n 2 dX5_canSell_4 rfl rfl ?_
  refine j_callV (ci := 10) (As := [(0, a2)]) (st := []) kc_X10_hasLot (c_X10_hasLot v1 a2 S hv1 h2) rfl lm_X5_100 ki_X10_hasLot ke_X10_hasLot rfl (Nat.le_of_ble_eq_true rfl) (Nat.le_trans (m := 3) (Nat.le_of_ble_eq_true rfl) hd0) dX5_canSell_5 (fun (v2 : Int) (S3 : jSt) (hv2 : (v2) = 0 ∨ (v2) = 1) => ?_)
  refine j_if_eq (tgt := 34) (jZ_R hv2) dX5_canSell_8 rfl (fun _ => ?_) (fun _ => ?_)
  · refine j_sub [] rfl ?_
    exact p_f_X5_canSell_b34 hd0 S3
  · refine j_aload_n 1 dX5_canSell_11 rfl rfl ?_
    refine j_getr (ci := 1) (k := 0) rfl in_X1 (Nat.le_of_ble_eq_true rfl) rfl rfl fl_X5_93 dX5_canSell_12 (fun (v4 : Int) (hv4 : 0 ≤ v4) => ?_)
    refine j_iload_n 2 dX5_canSell_15 rfl rfl ?_
    refine j_iaload h2 dX5_canSell_16 (fun (v5 : Int) (hv5 : R32 (v5)) => ?_)
    refine j_if_ne (tgt := 34) hv5 dX5_canSell_17 rfl (fun _ => ?_) (fun _ => ?_)
    · refine j_sub [] rfl ?_
      exact p_f_X5_canSell_b34 hd0 S3
    · refine j_aload_n 0 dX5_canSell_20 rfl rfl ?_
      refine j_getr (ci := 5) (k := 2) rfl in_X5 (Nat.le_of_ble_eq_true rfl) rfl rfl fl_X5_18 dX5_canSell_21 (fun (v6 : Int) (hv6 : 0 ≤ v6) => ?_)
      refine j_get (ci := 10) (k := 1) (t := 0) rfl in_X10 (Nat.le_of_ble_eq_true rfl) rfl rfl fl_X5_78 dX5_canSell_24 (fun (v7 : Int) (hv7 : R32 (v7)) => ?_)
      refine j_if_le (tgt := 34) hv7 dX5_canSell_27 rfl (fun _ => ?_) (fun _ => ?_)
      · refine j_sub [] rfl ?_
        exact p_f_X5_canSell_b34 hd0 S3
      · refine j_iconst dX5_canSell_30 ?_
        refine j_goto (tgt := 35) dX5_canSell_31 rfl ?_
        refine j_sub [] rfl ?_
        exact p_f_X5_canSell_b35 hd0 1 S3 jz1
theorem c_X5_canSell {G : jG} (a0 : Int) (a1 : Int) (a2 : Int) (S : jSt) (h0 : 0 ≤ (a0)) (h1 : 0 ≤ (a1)) (h2 : R32 (a2)) : CT G yX5_canSell cX5_canSell 3 (some .boolean) 3 ([(2, a0), (2, a1), (0, a2)].map jval) S (f_X5_canSell a0 a1 a2 S) := ct_of [(2, a0), (2, a1), (0, a2)] (by decide) rfl (Nat.le_of_ble_eq_true rfl) (e_X5_canSell (Nat.le_refl _) a0 a1 a2 S h0 h1 h2)
-- X5_reserveFor
def f_X5_reserveFor_b27 (x0 : Int) (x1 : Int) (S : jSt) : Option (Int × jSt) :=
  fgetr S x0 5 2 (fun v6 => fgetr S v6 10 2 (fun v7 => fald S v7 x1 1 (fun v8 => if 2 = 0 then none else some (idiv32 v8 2, S))))
theorem p_f_X5_reserveFor_b27 {G : jG} {d : Nat} {S0 : jSt} (hd0 : 3 ≤ d) : ∀ (x0 : Int) (x1 : Int) (S : jSt), (0 ≤ (x0)) → (R32 (x1)) → J G yX5_reserveFor cX5_reserveFor 4 (some .int) d S0 27 [(0, 2, x0), (2, 0, x1)] [] S (f_X5_reserveFor_b27  x0 x1 S) := by
  intro x0 x1 S h0 h1
  unfold f_X5_reserveFor_b27
  refine j_aload_n 0 dX5_reserveFor_27 rfl rfl ?_
  refine j_getr (ci := 5) (k := 2) rfl in_X5 (Nat.le_of_ble_eq_true rfl) rfl rfl fl_X5_18 dX5_reserveFor_28 (fun (v6 : Int) (hv6 : 0 ≤ v6) => ?_)
  refine j_getr (ci := 10) (k := 2) rfl in_X10 (Nat.le_of_ble_eq_true rfl) rfl rfl fl_X5_46 dX5_reserveFor_31 (fun (v7 : Int) (hv7 : 0 ≤ v7) => ?_)
  refine j_iload_n 1 dX5_reserveFor_34 rfl rfl ?_
  refine j_iaload h1 dX5_reserveFor_35 (fun (v8 : Int) (hv8 : R32 (v8)) => ?_)
  refine j_iconst dX5_reserveFor_36 ?_
  refine j_idiv (j_r32 2 rfl) dX5_reserveFor_37 ?_
  exact j_ireturn (idiv32_R _ _) dX5_reserveFor_38
def f_X5_reserveFor (a0 : Int) (a1 : Int) (a2 : Int) (S : jSt) : Option (Int × jSt) :=
  fgetr S a0 5 2 (fun v1 => fgetr S a0 5 2 (fun v2 => fget S v2 10 6 (fun v3 => fcallv S v1 10 (f_X10_scriptOf v1 v3 S) (fun v4 S5 => if v4 < 0 then f_X5_reserveFor_b27 a0 a2 S5 else if 0 ≤ v4 then fcallv S5 v4 6 (f_X6_rules v4 2 S5) (fun v9 S10 => if v9 = 0 then f_X5_reserveFor_b27 a0 a2 S10 else fgetr S10 a0 5 3 (fun v11 => fcallv S10 v11 2 (f_X2_value v11 v4 2 a1 a2 (-1) S10) (fun v12 S13 => some (imax 0 (imin 999 v12), S13)))) else none))))
theorem e_X5_reserveFor {G : jG} {d : Nat} {S0 : jSt} (hd0 : 3 ≤ d) (a0 : Int) (a1 : Int) (a2 : Int) (S : jSt) (h0 : 0 ≤ (a0)) (h1 : 0 ≤ (a1)) (h2 : R32 (a2)) : J G yX5_reserveFor cX5_reserveFor 4 (some .int) d S0 0 [(0, 2, a0), (1, 2, a1), (2, 0, a2)] [] S (f_X5_reserveFor a0 a1 a2 S) := by
  unfold f_X5_reserveFor
  refine j_aload_n 0 dX5_reserveFor_0 rfl rfl ?_
  refine j_getr (ci := 5) (k := 2) rfl in_X5 (Nat.le_of_ble_eq_true rfl) rfl rfl fl_X5_18 dX5_reserveFor_1 (fun (v1 : Int) (hv1 : 0 ≤ v1) => ?_)
  refine j_aload_n 0 dX5_reserveFor_4 rfl rfl ?_
  refine j_getr (ci := 5) (k := 2) rfl in_X5 (Nat.le_of_ble_eq_true rfl) rfl rfl fl_X5_18 dX5_reserveFor_5 (fun (v2 : Int) (hv2 : 0 ≤ v2) => ?_)
  refine j_get (ci := 10) (k := 6) (t := 0) rfl in_X10 (Nat.le_of_ble_eq_true rfl) rfl rfl fl_X5_31 dX5_reserveFor_8 (fun (v3 : Int) (hv3 : R32 (v3)) => ?_)
  refine j_callV (ci := 10) (As := [(0, v3)]) (st := []) kc_X10_scriptOf (c_X10_scriptOf v1 v3 S hv1 hv3) rfl lm_X5_36 ki_X10_scriptOf ke_X10_scriptOf rfl (Nat.le_of_ble_eq_true rfl) (Nat.le_trans (m := 3) (Nat.le_of_ble_eq_true rfl) hd0) dX5_reserveFor_11 (fun v4 S5 _ => ?_)
  refine j_astore_nq (lv' := [(3, 3, v4), (0, 2, a0), (1, 2, a1), (2, 0, a2)]) dX5_reserveFor_14 rfl (Nat.le_of_ble_eq_true rfl) rfl ?_
  refine j_aload_nq 0 dX5_reserveFor_15 rfl rfl ?_
  refine j_ifnull (tgt := 27) dX5_reserveFor_16 rfl (fun _ => ?_) (fun _ => ?_)
  · refine j_sub [1, 3] rfl ?_
    exact p_f_X5_reserveFor_b27 hd0 a0 a2 S5 h0 h2
  · refine j_aload_nq 0 dX5_reserveFor_19 rfl rfl ?_
    refine j_iconst dX5_reserveFor_20 ?_
    refine j_cast (z := v4) (st' := [(0, 2), (2, v4)]) (fun h => by simp only [List.map_cons, jpush, jtag, jval3r h]) (fun hq21 => ?_)
    refine j_callV (ci := 6) (As := [(0, 2)]) (st := []) kc_X6_rules (c_X6_rules v4 2 S5 hq21 (j_r32 2 rfl)) rfl lm_X5_40 ki_X6_rules ke_X6_rules rfl (Nat.le_of_ble_eq_true rfl) (Nat.le_trans (m := 3) (Nat.le_of_ble_eq_true rfl) hd0) dX5_reserveFor_21 (fun (v9 : Int) (S10 : jSt) (hv9 : (v9) = 0 ∨ (v9) = 1) => ?_)
    refine j_if_ne (tgt := 39) (jZ_R hv9) dX5_reserveFor_24 rfl (fun _ => ?_) (fun _ => ?_)
    · refine j_iconst dX5_reserveFor_39 ?_
      refine j_sipush dX5_reserveFor_40 (by decide) ?_
      refine j_aload_n 1 dX5_reserveFor_43 rfl rfl ?_
      refine j_getr (ci := 5) (k := 3) rfl in_X5 (Nat.le_of_ble_eq_true rfl) rfl rfl fl_X5_27 dX5_reserveFor_44 (fun (v11 : Int) (hv11 : 0 ≤ v11) => ?_)
      refine j_aload_nq 0 dX5_reserveFor_47 rfl rfl ?_
      refine j_iconst dX5_reserveFor_48 ?_
      refine j_aload_n 2 dX5_reserveFor_49 rfl rfl ?_
      refine j_iload_n 3 dX5_reserveFor_50 rfl rfl ?_
      refine j_iconst dX5_reserveFor_51 ?_
      refine j_callV (ci := 2) (As := [(3, v4), (0, 2), (2, a1), (0, a2), (0, (-1))]) (st := [(0, 999), (0, 0)]) kc_X2_value (c_X2_value v11 v4 2 a1 a2 (-1) S10 hv11 (j_r32 2 rfl) h1 h2 (j_r32 (-1) rfl)) rfl lm_X5_50 ki_X2_value ke_X2_value rfl (Nat.le_of_ble_eq_true rfl) (Nat.le_trans (m := 3) (Nat.le_of_ble_eq_true rfl) hd0) dX5_reserveFor_52 (fun (v12 : Int) (S13 : jSt) (hv12 : R32 (v12)) => ?_)
      refine j_mmin (j_r32 999 rfl) hv12 lx_X5_54 mx_s_mmin mx_i mx_c_mmin (Nat.le_of_ble_eq_true rfl) (Nat.le_trans (Nat.le_of_ble_eq_true rfl) hd0) dX5_reserveFor_55 ?_
      refine j_mmax (jZ_R jz0) (imin_R (j_r32 999 rfl) hv12) lx_X5_60 mx_s_mmax mx_i mx_c_mmax (Nat.le_of_ble_eq_true rfl) (Nat.le_trans (Nat.le_of_ble_eq_true rfl) hd0) dX5_reserveFor_58 ?_
      exact j_ireturn (imax_R (jZ_R jz0) (imin_R (j_r32 999 rfl) hv12)) dX5_reserveFor_61
    · refine j_sub [1, 3] rfl ?_
      exact p_f_X5_reserveFor_b27 hd0 a0 a2 S10 h0 h2
theorem c_X5_reserveFor {G : jG} (a0 : Int) (a1 : Int) (a2 : Int) (S : jSt) (h0 : 0 ≤ (a0)) (h1 : 0 ≤ (a1)) (h2 : R32 (a2)) : CT G yX5_reserveFor cX5_reserveFor 4 (some .int) 3 ([(2, a0), (2, a1), (0, a2)].map jval) S (f_X5_reserveFor a0 a1 a2 S) := ct_of [(2, a0), (2, a1), (0, a2)] (by decide) rfl (Nat.le_of_ble_eq_true rfl) (e_X5_reserveFor (Nat.le_refl _) a0 a1 a2 S h0 h1 h2)
-- X5_findWinner
def f_X5_findWinner_b82 (r28 : Int → Int → Int → Int → Int → Int → jSt → Option (Int × jSt)) (x0 : Int) (x1 : Int) (x2 : Int) (x3 : Int) (x4 : Int) (x5 : Int) (S : jSt) : Option (Int × jSt) :=
  flet (w32 (x5 + 1)) (fun v13 => r28 x0 x1 x2 x3 x4 v13 S)
theorem p_f_X5_findWinner_b82 {G : jG} {d : Nat} {S0 : jSt} (hd0 : 4 ≤ d) {r28 : Int → Int → Int → Int → Int → Int → jSt → Option (Int × jSt)} (k28 : ∀ (x0 : Int) (x1 : Int) (x2 : Int) (x3 : Int) (x4 : Int) (x5 : Int) (S : jSt), (0 ≤ (x0)) → (0 ≤ (x1)) → (R32 (x2)) → (R32 (x3)) → (R32 (x4)) → (R32 (x5)) → J G yX5_findWinner cX5_findWinner 7 none d S0 28 [(0, 2, x0), (1, 2, x1), (2, 0, x2), (3, 0, x3), (4, 0, x4), (5, 0, x5)] [] S (r28 x0 x1 x2 x3 x4 x5 S)) : ∀ (x0 : Int) (x1 : Int) (x2 : Int) (x3 : Int) (x4 : Int) (x5 : Int) (S : jSt), (0 ≤ (x0)) → (0 ≤ (x1)) → (R32 (x2)) → (R32 (x3)) → (R32 (x4)) → (R32 (x5)) → J G yX5_findWinner cX5_findWinner 7 none d S0 82 [(0, 2, x0), (1, 2, x1), (2, 0, x2), (3, 0, x3), (4, 0, x4), (5, 0, x5)] [] S (f_X5_findWinner_b82 r28 x0 x1 x2 x3 x4 x5 S) := by
  intro x0 x1 x2 x3 x4 x5 S h0 h1 h2 h3 h4 h5
  unfold f_X5_findWinner_b82
  refine j_iincL (q := 5) dX5_findWinner_82 rfl (Nat.le_of_ble_eq_true rfl) (fun v13 hv13 => ?_)
  refine j_lv (lv' := [(5, 0, v13), (0, 2, x0), (1, 2, x1), (2, 0, x2), (3, 0, x3), (4, 0, x4)]) rfl ?_
  refine j_goto (tgt := 28) dX5_findWinner_85 rfl ?_
  refine j_sub [1, 2, 3, 4, 5, 0] rfl ?_
  exact k28 x0 x1 x2 x3 x4 v13 S h0 h1 h2 h3 h4 hv13
def f_X5_findWinner_b28B (r28 : Int → Int → Int → Int → Int → Int → jSt → Option (Int × jSt)) (x0 : Int) (x1 : Int) (x2 : Int) (x3 : Int) (x4 : Int) (x5 : Int) (S : jSt) : Option (Int × jSt) :=
  fgetr S x0 5 2 (fun v5 => fget S v5 10 1 (fun v6 => if v6 ≤ x5 then fcallv S x0 5 (f_X5_reserveFor x0 x1 x2 S) (fun v7 S8 => if v7 ≤ x3 then fput S8 x0 5 1 (imax x4 v7) (fun S9 => some (0, S9)) else fput S8 x0 5 0 (-1) (fun S10 => some (0, S10))) else fcallv S x0 5 (f_X5_bidOf x0 x1 x5 x2 S) (fun v11 S12 => if v11 ≤ x3 then if v11 ≤ x4 then f_X5_findWinner_b82 r28 x0 x1 x2 x3 x4 x5 S12 else f_X5_findWinner_b82 r28 x0 x1 x2 x3 v11 x5 S12 else fput S12 x0 5 0 x5 (fun S14 => f_X5_findWinner_b82 r28 x0 x1 x2 v11 x3 x5 S14))))
theorem p_f_X5_findWinner_b28B {G : jG} {d : Nat} {S0 : jSt} (hd0 : 4 ≤ d) {r28 : Int → Int → Int → Int → Int → Int → jSt → Option (Int × jSt)} (k28 : ∀ (x0 : Int) (x1 : Int) (x2 : Int) (x3 : Int) (x4 : Int) (x5 : Int) (S : jSt), (0 ≤ (x0)) → (0 ≤ (x1)) → (R32 (x2)) → (R32 (x3)) → (R32 (x4)) → (R32 (x5)) → J G yX5_findWinner cX5_findWinner 7 none d S0 28 [(0, 2, x0), (1, 2, x1), (2, 0, x2), (3, 0, x3), (4, 0, x4), (5, 0, x5)] [] S (r28 x0 x1 x2 x3 x4 x5 S)) : ∀ (x0 : Int) (x1 : Int) (x2 : Int) (x3 : Int) (x4 : Int) (x5 : Int) (S : jSt), (0 ≤ (x0)) → (0 ≤ (x1)) → (R32 (x2)) → (R32 (x3)) → (R32 (x4)) → (R32 (x5)) → J G yX5_findWinner cX5_findWinner 7 none d S0 28 [(0, 2, x0), (1, 2, x1), (2, 0, x2), (3, 0, x3), (4, 0, x4), (5, 0, x5)] [] S (f_X5_findWinner_b28B r28 x0 x1 x2 x3 x4 x5 S) := by
  intro x0 x1 x2 x3 x4 x5 S h0 h1 h2 h3 h4 h5
  unfold f_X5_findWinner_b28B
  refine j_iload 5 dX5_findWinner_28 rfl ?_
  refine j_aload_n 0 dX5_findWinner_30 rfl rfl ?_
  refine j_getr (ci := 5) (k := 2) rfl in_X5 (Nat.le_of_ble_eq_true rfl) rfl rfl fl_X5_18 dX5_findWinner_31 (fun (v5 : Int) (hv5 : 0 ≤ v5) => ?_)
  refine j_get (ci := 10) (k := 1) (t := 0) rfl in_X10 (Nat.le_of_ble_eq_true rfl) rfl rfl fl_X5_78 dX5_findWinner_34 (fun (v6 : Int) (hv6 : R32 (v6)) => ?_)
  refine j_icmp_ge (tgt := 88) h5 hv6 dX5_findWinner_37 rfl (fun _ => ?_) (fun _ => ?_)
  · refine j_aload_n 0 dX5_findWinner_88 rfl rfl ?_
    refine j_aload_n 1 dX5_findWinner_89 rfl rfl ?_
    refine j_iload_n 2 dX5_findWinner_90 rfl rfl ?_
    refine j_callV (ci := 5) (As := [(2, x1), (0, x2)]) (st := []) kc_X5_reserveFor (c_X5_reserveFor x0 x1 x2 S h0 h1 h2) rfl lm_X5_85 ki_X5_reserveFor ke_X5_reserveFor rfl (Nat.le_of_ble_eq_true rfl) (Nat.le_trans (m := 4) (Nat.le_of_ble_eq_true rfl) hd0) dX5_findWinner_91 (fun (v7 : Int) (S8 : jSt) (hv7 : R32 (v7)) => ?_)
    refine j_istore (lv' := [(5, 0, v7), (0, 2, x0), (1, 2, x1), (2, 0, x2), (3, 0, x3), (4, 0, x4)]) dX5_findWinner_94 (Nat.le_of_ble_eq_true rfl) rfl ?_
    refine j_iload_n 4 dX5_findWinner_96 rfl rfl ?_
    refine j_iload 0 dX5_findWinner_97 rfl ?_
    refine j_icmp_ge (tgt := 108) h3 hv7 dX5_findWinner_99 rfl (fun _ => ?_) (fun _ => ?_)
    · refine j_aload_n 1 dX5_findWinner_108 rfl rfl ?_
      refine j_iload 5 dX5_findWinner_109 rfl ?_
      refine j_iload 0 dX5_findWinner_111 rfl ?_
      refine j_mmax h4 hv7 lx_X5_60 mx_s_mmax mx_i mx_c_mmax (Nat.le_of_ble_eq_true rfl) (Nat.le_trans (Nat.le_of_ble_eq_true rfl) hd0) dX5_findWinner_113 ?_
      refine j_puti (ci := 5) (k := 1) (ty0 := tyX5) rfl in_X5 (Nat.le_of_ble_eq_true rfl) rfl tyX5_ok nmX5 rfl rfl (by decide +kernel) (imax_R h4 hv7) fl_X5_15 dX5_findWinner_116 (fun S9 => ?_)
      exact j_return dX5_findWinner_119
    · refine j_aload_n 1 dX5_findWinner_102 rfl rfl ?_
      refine j_iconst dX5_findWinner_103 ?_
      refine j_puti (ci := 5) (k := 0) (ty0 := tyX5) rfl in_X5 (Nat.le_of_ble_eq_true rfl) rfl tyX5_ok nmX5 rfl rfl (by decide +kernel) (j_r32 (-1) rfl) fl_X5_9 dX5_findWinner_104 (fun S10 => ?_)
      exact j_return dX5_findWinner_107
  · refine j_aload_n 0 dX5_findWinner_40 rfl rfl ?_
    refine j_aload_n 1 dX5_findWinner_41 rfl rfl ?_
    refine j_iload 5 dX5_findWinner_42 rfl ?_
    refine j_iload_n 2 dX5_findWinner_44 rfl rfl ?_
    refine j_callV (ci := 5) (As := [(2, x1), (0, x5), (0, x2)]) (st := []) kc_X5_bidOf (c_X5_bidOf x0 x1 x5 x2 S h0 h1 h5 h2) rfl lm_X5_81 ki_X5_bidOf ke_X5_bidOf rfl (Nat.le_of_ble_eq_true rfl) (Nat.le_trans (m := 4) (Nat.le_of_ble_eq_true rfl) hd0) dX5_findWinner_45 (fun (v11 : Int) (S12 : jSt) (hv11 : R32 (v11)) => ?_)
    refine j_istore (lv' := [(6, 0, v11), (0, 2, x0), (1, 2, x1), (2, 0, x2), (3, 0, x3), (4, 0, x4), (5, 0, x5)]) dX5_findWinner_48 (Nat.le_of_ble_eq_true rfl) rfl ?_
    refine j_iload 0 dX5_findWinner_50 rfl ?_
    refine j_iload_n 4 dX5_findWinner_52 rfl rfl ?_
    refine j_icmp_le (tgt := 71) hv11 h3 dX5_findWinner_53 rfl (fun _ => ?_) (fun _ => ?_)
    · refine j_iload 0 dX5_findWinner_71 rfl ?_
      refine j_iload 5 dX5_findWinner_73 rfl ?_
      refine j_icmp_le (tgt := 82) hv11 h4 dX5_findWinner_75 rfl (fun _ => ?_) (fun _ => ?_)
      · refine j_sub [1, 2, 3, 4, 5, 6] rfl ?_
        exact p_f_X5_findWinner_b82 hd0 k28 x0 x1 x2 x3 x4 x5 S12 h0 h1 h2 h3 h4 h5
      · refine j_iload 0 dX5_findWinner_78 rfl ?_
        refine j_istore (lv' := [(4, 0, v11), (6, 0, v11), (0, 2, x0), (1, 2, x1), (2, 0, x2), (3, 0, x3), (5, 0, x5)]) dX5_findWinner_80 (Nat.le_of_ble_eq_true rfl) rfl ?_
        refine j_sub [2, 3, 4, 5, 0, 6] rfl ?_
        exact p_f_X5_findWinner_b82 hd0 k28 x0 x1 x2 x3 v11 x5 S12 h0 h1 h2 h3 hv11 h5
    · refine j_iload_n 4 dX5_findWinner_56 rfl rfl ?_
      refine j_istore (lv' := [(4, 0, x3), (6, 0, v11), (0, 2, x0), (1, 2, x1), (2, 0, x2), (3, 0, x3), (5, 0, x5)]) dX5_findWinner_57 (Nat.le_of_ble_eq_true rfl) rfl ?_
      refine j_iload 1 dX5_findWinner_59 rfl ?_
      refine j_istore_n (lv' := [(3, 0, v11), (4, 0, x3), (6, 0, v11), (0, 2, x0), (1, 2, x1), (2, 0, x2), (5, 0, x5)]) dX5_findWinner_61 rfl (Nat.le_of_ble_eq_true rfl) rfl ?_
      refine j_aload_n 3 dX5_findWinner_62 rfl rfl ?_
      refine j_iload 6 dX5_findWinner_63 rfl ?_
      refine j_puti (ci := 5) (k := 0) (ty0 := tyX5) rfl in_X5 (Nat.le_of_ble_eq_true rfl) rfl tyX5_ok nmX5 rfl rfl (by decide +kernel) h5 fl_X5_9 dX5_findWinner_65 (fun S14 => ?_)
      refine j_goto (tgt := 82) dX5_findWinner_68 rfl ?_
      refine j_sub [3, 4, 5, 0, 1, 6] rfl ?_
      exact p_f_X5_findWinner_b82 hd0 k28 x0 x1 x2 v11 x3 x5 S14 h0 h1 h2 hv11 h3 h5
def f_X5_findWinner_b28 : Int → Int → Int → Int → Int → Int → jSt → Option (Int × jSt) := jrep (β := Int → Int → Int → Int → Int → Int → jSt → Option (Int × jSt)) (fun _ _ _ _ _ _ _ => none) (fun r => f_X5_findWinner_b28B r) jN
theorem p_f_X5_findWinner_b28 {G : jG} {d : Nat} {S0 : jSt} (hd0 : 4 ≤ d) : ∀ (x0 : Int) (x1 : Int) (x2 : Int) (x3 : Int) (x4 : Int) (x5 : Int) (S : jSt), (0 ≤ (x0)) → (0 ≤ (x1)) → (R32 (x2)) → (R32 (x3)) → (R32 (x4)) → (R32 (x5)) → J G yX5_findWinner cX5_findWinner 7 none d S0 28 [(0, 2, x0), (1, 2, x1), (2, 0, x2), (3, 0, x3), (4, 0, x4), (5, 0, x5)] [] S (f_X5_findWinner_b28  x0 x1 x2 x3 x4 x5 S) :=
  jrep_ind (P := fun (r : Int → Int → Int → Int → Int → Int → jSt → Option (Int × jSt)) => ∀ (x0 : Int) (x1 : Int) (x2 : Int) (x3 : Int) (x4 : Int) (x5 : Int) (S : jSt), (0 ≤ (x0)) → (0 ≤ (x1)) → (R32 (x2)) → (R32 (x3)) → (R32 (x4)) → (R32 (x5)) → J G yX5_findWinner cX5_findWinner 7 none d S0 28 [(0, 2, x0), (1, 2, x1), (2, 0, x2), (3, 0, x3), (4, 0, x4), (5, 0, x5)] [] S (r x0 x1 x2 x3 x4 x5 S)) (by intros; exact j_none) (fun r k => p_f_X5_findWinner_b28B hd0 k) jN
def f_X5_findWinner (a0 : Int) (a1 : Int) (a2 : Int) (S : jSt) : Option (Int × jSt) :=
  fput S a0 5 0 (-1) (fun S1 => fput S1 a0 5 1 (-1) (fun S2 => fcallv S2 a0 5 (f_X5_canSell a0 a1 a2 S2) (fun v3 S4 => if v3 = 0 then some (0, S4) else f_X5_findWinner_b28 a0 a1 a2 (-1) (-1) 0 S4)))
theorem e_X5_findWinner {G : jG} {d : Nat} {S0 : jSt} (hd0 : 4 ≤ d) (a0 : Int) (a1 : Int) (a2 : Int) (S : jSt) (h0 : 0 ≤ (a0)) (h1 : 0 ≤ (a1)) (h2 : R32 (a2)) : J G yX5_findWinner cX5_findWinner 7 none d S0 0 [(0, 2, a0), (1, 2, a1), (2, 0, a2)] [] S (f_X5_findWinner a0 a1 a2 S) := by
  unfold f_X5_findWinner
  refine j_aload_n 0 dX5_findWinner_0 rfl rfl ?_
  refine j_iconst dX5_findWinner_1 ?_
  refine j_puti (ci := 5) (k := 0) (ty0 := tyX5) rfl in_X5 (Nat.le_of_ble_eq_true rfl) rfl tyX5_ok nmX5 rfl rfl (by decide +kernel) (j_r32 (-1) rfl) fl_X5_9 dX5_findWinner_2 (fun S1 => ?_)
  refine j_aload_n 0 dX5_findWinner_5 rfl rfl ?_
  refine j_iconst dX5_findWinner_6 ?_
  refine j_puti (ci := 5) (k := 1) (ty0 := tyX5) rfl in_X5 (Nat.le_of_ble_eq_true rfl) rfl tyX5_ok nmX5 rfl rfl (by decide +kernel) (j_r32 (-1) rfl) fl_X5_15 dX5_findWinner_7 (fun S2 => ?_)
  refine j_aload_n 0 dX5_findWinner_10 rfl rfl ?_
  refine j_aload_n 1 dX5_findWinner_11 rfl rfl ?_
  refine j_iload_n 2 dX5_findWinner_12 rfl rfl ?_
  refine j_callV (ci := 5) (As := [(2, a1), (0, a2)]) (st := []) kc_X5_canSell (c_X5_canSell a0 a1 a2 S2 h0 h1 h2) rfl lm_X5_74 ki_X5_canSell ke_X5_canSell rfl (Nat.le_of_ble_eq_true rfl) (Nat.le_trans (m := 4) (Nat.le_of_ble_eq_true rfl) hd0) dX5_findWinner_13 (fun (v3 : Int) (S4 : jSt) (hv3 : (v3) = 0 ∨ (v3) = 1) => ?_)
  refine j_if_ne (tgt := 20) (jZ_R hv3) dX5_findWinner_16 rfl (fun _ => ?_) (fun _ => ?_)
  · refine j_iconst dX5_findWinner_20 ?_
    refine j_istore_n (lv' := [(3, 0, (-1)), (0, 2, a0), (1, 2, a1), (2, 0, a2)]) dX5_findWinner_21 rfl (Nat.le_of_ble_eq_true rfl) rfl ?_
    refine j_iconst dX5_findWinner_22 ?_
    refine j_istore (lv' := [(4, 0, (-1)), (3, 0, (-1)), (0, 2, a0), (1, 2, a1), (2, 0, a2)]) dX5_findWinner_23 (Nat.le_of_ble_eq_true rfl) rfl ?_
    refine j_iconst dX5_findWinner_25 ?_
    refine j_istore (lv' := [(5, 0, 0), (4, 0, (-1)), (3, 0, (-1)), (0, 2, a0), (1, 2, a1), (2, 0, a2)]) dX5_findWinner_26 (Nat.le_of_ble_eq_true rfl) rfl ?_
    refine j_sub [3, 4, 5, 2, 1, 0] rfl ?_
    exact p_f_X5_findWinner_b28 hd0 a0 a1 a2 (-1) (-1) 0 S4 h0 h1 h2 (j_r32 (-1) rfl) (j_r32 (-1) rfl) (jZ_R jz0)
  · exact j_return dX5_findWinner_19
theorem c_X5_findWinner {G : jG} (a0 : Int) (a1 : Int) (a2 : Int) (S : jSt) (h0 : 0 ≤ (a0)) (h1 : 0 ≤ (a1)) (h2 : R32 (a2)) : CT G yX5_findWinner cX5_findWinner 7 none 4 ([(2, a0), (2, a1), (0, a2)].map jval) S (f_X5_findWinner a0 a1 a2 S) := ct_of [(2, a0), (2, a1), (0, a2)] (by decide) rfl (Nat.le_of_ble_eq_true rfl) (e_X5_findWinner (Nat.le_refl _) a0 a1 a2 S h0 h1 h2)
-- X0_tryOrders
def f_X0_tryOrders_b38 (g_X0_tryOrders : Int → Int → Int → Int → Int → jSt → Option (Int × jSt)) (S : jSt) : Option (Int × jSt) :=
  some (0, S)
theorem p_f_X0_tryOrders_b38 {G : jG} {d : Nat} {S0 : jSt} (hd0 : 5 ≤ d) {g_X0_tryOrders : Int → Int → Int → Int → Int → jSt → Option (Int × jSt)} {dg : Nat} (hdg : dg + 1 ≤ d) (q_X0_tryOrders : ∀ (a0 : Int) (a1 : Int) (a2 : Int) (a3 : Int) (a4 : Int) (S : jSt), (0 ≤ (a0)) → (0 ≤ (a1)) → (R32 (a2)) → (R32 (a3)) → (R32 (a4)) → CT G yX0_tryOrders cX0_tryOrders 9 none dg ([(2, a0), (2, a1), (0, a2), (0, a3), (0, a4)].map jval) S (g_X0_tryOrders a0 a1 a2 a3 a4 S)) : ∀ (S : jSt), J G yX0_tryOrders cX0_tryOrders 9 none d S0 38 [] [] S (f_X0_tryOrders_b38 g_X0_tryOrders  S) := by
  intro S
  unfold f_X0_tryOrders_b38
  exact j_return dX0_tryOrders_38
def f_X0_tryOrders_b9 (g_X0_tryOrders : Int → Int → Int → Int → Int → jSt → Option (Int × jSt)) (x0 : Int) (x1 : Int) (S : jSt) : Option (Int × jSt) :=
  fget S x0 0 0 (fun v1 => if x1 ≤ v1 then f_X0_tryOrders_b38 g_X0_tryOrders S else fput S x0 0 0 x1 (fun S2 => fgetr S2 x0 0 6 (fun v3 => fgetr S2 x0 0 1 (fun v4 => fcopy S2 v3 0 v4 0 5 (fun S5 => f_X0_tryOrders_b38 g_X0_tryOrders S5)))))
theorem p_f_X0_tryOrders_b9 {G : jG} {d : Nat} {S0 : jSt} (hd0 : 5 ≤ d) {g_X0_tryOrders : Int → Int → Int → Int → Int → jSt → Option (Int × jSt)} {dg : Nat} (hdg : dg + 1 ≤ d) (q_X0_tryOrders : ∀ (a0 : Int) (a1 : Int) (a2 : Int) (a3 : Int) (a4 : Int) (S : jSt), (0 ≤ (a0)) → (0 ≤ (a1)) → (R32 (a2)) → (R32 (a3)) → (R32 (a4)) → CT G yX0_tryOrders cX0_tryOrders 9 none dg ([(2, a0), (2, a1), (0, a2), (0, a3), (0, a4)].map jval) S (g_X0_tryOrders a0 a1 a2 a3 a4 S)) : ∀ (x0 : Int) (x1 : Int) (S : jSt), (0 ≤ (x0)) → (R32 (x1)) → J G yX0_tryOrders cX0_tryOrders 9 none d S0 9 [(0, 2, x0), (4, 0, x1)] [] S (f_X0_tryOrders_b9 g_X0_tryOrders x0 x1 S) := by
  intro x0 x1 S h0 h1
  unfold f_X0_tryOrders_b9
  refine j_iload 1 dX0_tryOrders_9 rfl ?_
  refine j_aload_n 0 dX0_tryOrders_11 rfl rfl ?_
  refine j_get (ci := 0) (k := 0) (t := 0) rfl in_X0 (Nat.le_of_ble_eq_true rfl) rfl rfl fl_X0_26 dX0_tryOrders_12 (fun (v1 : Int) (hv1 : R32 (v1)) => ?_)
  refine j_icmp_le (tgt := 38) h1 hv1 dX0_tryOrders_15 rfl (fun _ => ?_) (fun _ => ?_)
  · refine j_sub [] rfl ?_
    exact p_f_X0_tryOrders_b38 hd0 hdg q_X0_tryOrders S
  · refine j_aload_n 0 dX0_tryOrders_18 rfl rfl ?_
    refine j_iload 1 dX0_tryOrders_19 rfl ?_
    refine j_puti (ci := 0) (k := 0) (ty0 := tyX0) rfl in_X0 (Nat.le_of_ble_eq_true rfl) rfl tyX0_ok nmX0 rfl rfl (by decide +kernel) h1 fl_X0_26 dX0_tryOrders_21 (fun S2 => ?_)
    refine j_aload_n 0 dX0_tryOrders_24 rfl rfl ?_
    refine j_getr (ci := 0) (k := 6) rfl in_X0 (Nat.le_of_ble_eq_true rfl) rfl rfl fl_X0_15 dX0_tryOrders_25 (fun (v3 : Int) (hv3 : 0 ≤ v3) => ?_)
    refine j_iconst dX0_tryOrders_28 ?_
    refine j_aload_n 0 dX0_tryOrders_29 rfl rfl ?_
    refine j_getr (ci := 0) (k := 1) rfl in_X0 (Nat.le_of_ble_eq_true rfl) rfl rfl fl_X0_9 dX0_tryOrders_30 (fun (v4 : Int) (hv4 : 0 ≤ v4) => ?_)
    refine j_iconst dX0_tryOrders_33 ?_
    refine j_iconst dX0_tryOrders_34 ?_
    refine j_copy (jZ_R jz0) (jZ_R jz0) (j_r32 5 rfl) la_X0_34 ay_n ay_s ay_i (Nat.le_of_ble_eq_true rfl) (Nat.le_trans (Nat.le_of_ble_eq_true rfl) hd0) dX0_tryOrders_35 (fun S5 => ?_)
    refine j_sub [] rfl ?_
    exact p_f_X0_tryOrders_b38 hd0 hdg q_X0_tryOrders S5
def f_X0_tryOrders_b191 (g_X0_tryOrders : Int → Int → Int → Int → Int → jSt → Option (Int × jSt)) (r42 : Int → Int → Int → Int → Int → Int → jSt → Option (Int × jSt)) (x0 : Int) (x1 : Int) (x2 : Int) (x3 : Int) (x4 : Int) (x5 : Int) (S : jSt) : Option (Int × jSt) :=
  flet (w32 (x5 + 1)) (fun v30 => r42 x0 x1 x2 x3 x4 v30 S)
theorem p_f_X0_tryOrders_b191 {G : jG} {d : Nat} {S0 : jSt} (hd0 : 5 ≤ d) {g_X0_tryOrders : Int → Int → Int → Int → Int → jSt → Option (Int × jSt)} {dg : Nat} (hdg : dg + 1 ≤ d) (q_X0_tryOrders : ∀ (a0 : Int) (a1 : Int) (a2 : Int) (a3 : Int) (a4 : Int) (S : jSt), (0 ≤ (a0)) → (0 ≤ (a1)) → (R32 (a2)) → (R32 (a3)) → (R32 (a4)) → CT G yX0_tryOrders cX0_tryOrders 9 none dg ([(2, a0), (2, a1), (0, a2), (0, a3), (0, a4)].map jval) S (g_X0_tryOrders a0 a1 a2 a3 a4 S)) {r42 : Int → Int → Int → Int → Int → Int → jSt → Option (Int × jSt)} (k42 : ∀ (x0 : Int) (x1 : Int) (x2 : Int) (x3 : Int) (x4 : Int) (x5 : Int) (S : jSt), (0 ≤ (x0)) → (0 ≤ (x1)) → (R32 (x2)) → (R32 (x3)) → (R32 (x4)) → (R32 (x5)) → J G yX0_tryOrders cX0_tryOrders 9 none d S0 42 [(0, 2, x0), (1, 2, x1), (2, 0, x2), (3, 0, x3), (4, 0, x4), (5, 0, x5)] [] S (r42 x0 x1 x2 x3 x4 x5 S)) : ∀ (x0 : Int) (x1 : Int) (x2 : Int) (x3 : Int) (x4 : Int) (x5 : Int) (S : jSt), (0 ≤ (x0)) → (0 ≤ (x1)) → (R32 (x2)) → (R32 (x3)) → (R32 (x4)) → (R32 (x5)) → J G yX0_tryOrders cX0_tryOrders 9 none d S0 191 [(0, 2, x0), (1, 2, x1), (2, 0, x2), (3, 0, x3), (4, 0, x4), (5, 0, x5)] [] S (f_X0_tryOrders_b191 g_X0_tryOrders r42 x0 x1 x2 x3 x4 x5 S) := by
  intro x0 x1 x2 x3 x4 x5 S h0 h1 h2 h3 h4 h5
  unfold f_X0_tryOrders_b191
  refine j_iincL (q := 5) dX0_tryOrders_191 rfl (Nat.le_of_ble_eq_true rfl) (fun v30 hv30 => ?_)
  refine j_lv (lv' := [(5, 0, v30), (0, 2, x0), (1, 2, x1), (2, 0, x2), (3, 0, x3), (4, 0, x4)]) rfl ?_
  refine j_goto (tgt := 42) dX0_tryOrders_194 rfl ?_
  refine j_sub [1, 2, 3, 4, 5, 0] rfl ?_
  exact k42 x0 x1 x2 x3 x4 v30 S h0 h1 h2 h3 h4 hv30
def f_X0_tryOrders_b42B (g_X0_tryOrders : Int → Int → Int → Int → Int → jSt → Option (Int × jSt)) (r42 : Int → Int → Int → Int → Int → Int → jSt → Option (Int × jSt)) (x0 : Int) (x1 : Int) (x2 : Int) (x3 : Int) (x4 : Int) (x5 : Int) (S : jSt) : Option (Int × jSt) :=
  fgetr S x0 0 7 (fun v6 => fget S v6 10 0 (fun v7 => if v7 ≤ x5 then some (0, S) else if (iand32 (ishr32 x2 x5) 1) = 0 then f_X0_tryOrders_b191 g_X0_tryOrders r42 x0 x1 x2 x3 x4 x5 S else fgetr S x0 0 6 (fun v8 => fast S v8 x3 1 x5 (fun S9 => fgetr S9 x0 0 8 (fun v10 => fcallv S9 v10 5 (f_X5_findWinner v10 x1 x5 S9) (fun v11 S12 => fgetr S12 x0 0 8 (fun v13 => fget S12 v13 5 0 (fun v14 => fgetr S12 x0 0 8 (fun v15 => fget S12 v15 5 1 (fun v16 => flet (iand32 x2 (ixor32 (ishl32 1 x5) (-1))) (fun v17 => if v14 = (-1) then fcallv S12 x0 0 (g_X0_tryOrders x0 x1 v17 (w32 (x3 + 1)) x4 S12) (fun v31 S32 => f_X0_tryOrders_b191 g_X0_tryOrders r42 x0 x1 x2 x3 x4 x5 S32) else fgetr S12 x1 1 2 (fun v18 => fald S12 v18 v14 1 (fun v19 => fast S12 v18 v14 1 (w32 (v19 - v16)) (fun S20 => fgetr S20 x1 1 0 (fun v21 => fast S20 v21 x5 1 (w32 (3 + v14)) (fun S22 => fcallv S22 x0 0 (g_X0_tryOrders x0 x1 v17 (w32 (x3 + 1)) (w32 (x4 + v16)) S22) (fun v23 S24 => fgetr S24 x1 1 2 (fun v25 => fald S24 v25 v14 1 (fun v26 => fast S24 v25 v14 1 (w32 (v26 + v16)) (fun S27 => fgetr S27 x1 1 0 (fun v28 => fast S27 v28 x5 1 0 (fun S29 => f_X0_tryOrders_b191 g_X0_tryOrders r42 x0 x1 x2 x3 x4 x5 S29))))))))))))))))))))))
theorem p_f_X0_tryOrders_b42B {G : jG} {d : Nat} {S0 : jSt} (hd0 : 5 ≤ d) {g_X0_tryOrders : Int → Int → Int → Int → Int → jSt → Option (Int × jSt)} {dg : Nat} (hdg : dg + 1 ≤ d) (q_X0_tryOrders : ∀ (a0 : Int) (a1 : Int) (a2 : Int) (a3 : Int) (a4 : Int) (S : jSt), (0 ≤ (a0)) → (0 ≤ (a1)) → (R32 (a2)) → (R32 (a3)) → (R32 (a4)) → CT G yX0_tryOrders cX0_tryOrders 9 none dg ([(2, a0), (2, a1), (0, a2), (0, a3), (0, a4)].map jval) S (g_X0_tryOrders a0 a1 a2 a3 a4 S)) {r42 : Int → Int → Int → Int → Int → Int → jSt → Option (Int × jSt)} (k42 : ∀ (x0 : Int) (x1 : Int) (x2 : Int) (x3 : Int) (x4 : Int) (x5 : Int) (S : jSt), (0 ≤ (x0)) → (0 ≤ (x1)) → (R32 (x2)) → (R32 (x3)) → (R32 (x4)) → (R32 (x5)) → J G yX0_tryOrders cX0_tryOrders 9 none d S0 42 [(0, 2, x0), (1, 2, x1), (2, 0, x2), (3, 0, x3), (4, 0, x4), (5, 0, x5)] [] S (r42 x0 x1 x2 x3 x4 x5 S)) : ∀ (x0 : Int) (x1 : Int) (x2 : Int) (x3 : Int) (x4 : Int) (x5 : Int) (S : jSt), (0 ≤ (x0)) → (0 ≤ (x1)) → (R32 (x2)) → (R32 (x3)) → (R32 (x4)) → (R32 (x5)) → J G yX0_tryOrders cX0_tryOrders 9 none d S0 42 [(0, 2, x0), (1, 2, x1), (2, 0, x2), (3, 0, x3), (4, 0, x4), (5, 0, x5)] [] S (f_X0_tryOrders_b42B g_X0_tryOrders r42 x0 x1 x2 x3 x4 x5 S) := by
  intro x0 x1 x2 x3 x4 x5 S h0 h1 h2 h3 h4 h5
  unfold f_X0_tryOrders_b42B
  refine j_iload 5 dX0_tryOrders_42 rfl ?_
  refine j_aload_n 0 dX0_tryOrders_44 rfl rfl ?_
  refine j_getr (ci := 0) (k := 7) rfl in_X0 (Nat.le_of_ble_eq_true rfl) rfl rfl fl_X0_18 dX0_tryOrders_45 (fun (v6 : Int) (hv6 : 0 ≤ v6) => ?_)
  refine j_get (ci := 10) (k := 0) (t := 0) rfl in_X10 (Nat.le_of_ble_eq_true rfl) rfl rfl fl_X0_40 dX0_tryOrders_48 (fun (v7 : Int) (hv7 : R32 (v7)) => ?_)
  refine j_icmp_ge (tgt := 197) h5 hv7 dX0_tryOrders_51 rfl (fun _ => ?_) (fun _ => ?_)
  · exact j_return dX0_tryOrders_197
  · refine j_iload_n 2 dX0_tryOrders_54 rfl rfl ?_
    refine j_iload 5 dX0_tryOrders_55 rfl ?_
    refine j_ishr dX0_tryOrders_57 ?_
    refine j_iconst dX0_tryOrders_58 ?_
    refine j_iand dX0_tryOrders_59 ?_
    refine j_if_ne (tgt := 66) (iand32_R _ _) dX0_tryOrders_60 rfl (fun _ => ?_) (fun _ => ?_)
    · refine j_aload_n 0 dX0_tryOrders_66 rfl rfl ?_
      refine j_getr (ci := 0) (k := 6) rfl in_X0 (Nat.le_of_ble_eq_true rfl) rfl rfl fl_X0_15 dX0_tryOrders_67 (fun (v8 : Int) (hv8 : 0 ≤ v8) => ?_)
      refine j_iload_n 3 dX0_tryOrders_70 rfl rfl ?_
      refine j_iload 5 dX0_tryOrders_71 rfl ?_
      refine j_iastore h3 h5 dX0_tryOrders_73 (fun S9 => ?_)
      refine j_aload_n 0 dX0_tryOrders_74 rfl rfl ?_
      refine j_getr (ci := 0) (k := 8) rfl in_X0 (Nat.le_of_ble_eq_true rfl) rfl rfl fl_X0_22 dX0_tryOrders_75 (fun (v10 : Int) (hv10 : 0 ≤ v10) => ?_)
      refine j_aload_n 1 dX0_tryOrders_78 rfl rfl ?_
      refine j_iload 5 dX0_tryOrders_79 rfl ?_
      refine j_callV (ci := 5) (As := [(2, x1), (0, x5)]) (st := []) kc_X5_findWinner (c_X5_findWinner v10 x1 x5 S9 hv10 h1 h5) rfl lm_X0_45 ki_X5_findWinner ke_X5_findWinner rfl (Nat.le_of_ble_eq_true rfl) (Nat.le_trans (m := 5) (Nat.le_of_ble_eq_true rfl) hd0) dX0_tryOrders_81 (fun v11 S12 _ => ?_)
      refine j_aload_n 0 dX0_tryOrders_84 rfl rfl ?_
      refine j_getr (ci := 0) (k := 8) rfl in_X0 (Nat.le_of_ble_eq_true rfl) rfl rfl fl_X0_22 dX0_tryOrders_85 (fun (v13 : Int) (hv13 : 0 ≤ v13) => ?_)
      refine j_get (ci := 5) (k := 0) (t := 0) rfl in_X5 (Nat.le_of_ble_eq_true rfl) rfl rfl fl_X0_51 dX0_tryOrders_88 (fun (v14 : Int) (hv14 : R32 (v14)) => ?_)
      refine j_istore (lv' := [(6, 0, v14), (0, 2, x0), (1, 2, x1), (2, 0, x2), (3, 0, x3), (4, 0, x4), (5, 0, x5)]) dX0_tryOrders_91 (Nat.le_of_ble_eq_true rfl) rfl ?_
      refine j_aload_n 1 dX0_tryOrders_93 rfl rfl ?_
      refine j_getr (ci := 0) (k := 8) rfl in_X0 (Nat.le_of_ble_eq_true rfl) rfl rfl fl_X0_22 dX0_tryOrders_94 (fun (v15 : Int) (hv15 : 0 ≤ v15) => ?_)
      refine j_get (ci := 5) (k := 1) (t := 0) rfl in_X5 (Nat.le_of_ble_eq_true rfl) rfl rfl fl_X0_54 dX0_tryOrders_97 (fun (v16 : Int) (hv16 : R32 (v16)) => ?_)
      refine j_istore (lv' := [(7, 0, v16), (6, 0, v14), (0, 2, x0), (1, 2, x1), (2, 0, x2), (3, 0, x3), (4, 0, x4), (5, 0, x5)]) dX0_tryOrders_100 (Nat.le_of_ble_eq_true rfl) rfl ?_
      refine j_iload_n 4 dX0_tryOrders_102 rfl rfl ?_
      refine j_iconst dX0_tryOrders_103 ?_
      refine j_iload 7 dX0_tryOrders_104 rfl ?_
      refine j_ishl dX0_tryOrders_106 ?_
      refine j_iconst dX0_tryOrders_107 ?_
      refine j_ixor dX0_tryOrders_108 ?_
      refine j_iand dX0_tryOrders_109 ?_
      refine j_leti (iand32_R _ _) (fun v17 hv17 => ?_)
      refine j_istore (lv' := [(8, 0, v17), (7, 0, v16), (6, 0, v14), (0, 2, x0), (1, 2, x1), (2, 0, x2), (3, 0, x3), (4, 0, x4), (5, 0, x5)]) dX0_tryOrders_110 (Nat.le_of_ble_eq_true rfl) rfl ?_
      refine j_iload 2 dX0_tryOrders_112 rfl ?_
      refine j_iconst dX0_tryOrders_114 ?_
      refine j_icmp_ne (tgt := 133) hv14 (j_r32 (-1) rfl) dX0_tryOrders_115 rfl (fun _ => ?_) (fun _ => ?_)
      · refine j_aload_n 4 dX0_tryOrders_133 rfl rfl ?_
        refine j_getr (ci := 1) (k := 2) rfl in_X1 (Nat.le_of_ble_eq_true rfl) rfl rfl fl_X0_57 dX0_tryOrders_134 (fun (v18 : Int) (hv18 : 0 ≤ v18) => ?_)
        refine j_iload 2 dX0_tryOrders_137 rfl ?_
        refine j_dup2 dX0_tryOrders_139 (fun h => nomatch h) (fun h => nomatch h) ?_
        refine j_iaload hv14 dX0_tryOrders_140 (fun (v19 : Int) (hv19 : R32 (v19)) => ?_)
        refine j_iload 1 dX0_tryOrders_141 rfl ?_
        refine j_isub dX0_tryOrders_143 ?_
        refine j_iastore hv14 (w32_R _) dX0_tryOrders_144 (fun S20 => ?_)
        refine j_aload_n 4 dX0_tryOrders_145 rfl rfl ?_
        refine j_getr (ci := 1) (k := 0) rfl in_X1 (Nat.le_of_ble_eq_true rfl) rfl rfl fl_X0_62 dX0_tryOrders_146 (fun (v21 : Int) (hv21 : 0 ≤ v21) => ?_)
        refine j_iload 8 dX0_tryOrders_149 rfl ?_
        refine j_iconst dX0_tryOrders_151 ?_
        refine j_iload 2 dX0_tryOrders_152 rfl ?_
        refine j_iadd dX0_tryOrders_154 ?_
        refine j_iastore h5 (w32_R _) dX0_tryOrders_155 (fun S22 => ?_)
        refine j_aload_n 3 dX0_tryOrders_156 rfl rfl ?_
        refine j_aload_n 4 dX0_tryOrders_157 rfl rfl ?_
        refine j_iload 0 dX0_tryOrders_158 rfl ?_
        refine j_iload_n 6 dX0_tryOrders_160 rfl rfl ?_
        refine j_iconst dX0_tryOrders_161 ?_
        refine j_iadd dX0_tryOrders_162 ?_
        refine j_iload 7 dX0_tryOrders_163 rfl ?_
        refine j_iload 1 dX0_tryOrders_165 rfl ?_
        refine j_iadd dX0_tryOrders_167 ?_
        refine j_callV (ci := 0) (As := [(2, x1), (0, v17), (0, w32 (x3 + 1)), (0, w32 (x4 + v16))]) (st := []) kc_X0_tryOrders (q_X0_tryOrders x0 x1 v17 (w32 (x3 + 1)) (w32 (x4 + v16)) S22 h0 h1 hv17 (w32_R _) (w32_R _)) rfl lm_X0_30 ki_X0_tryOrders ke_X0_tryOrders rfl (Nat.le_of_ble_eq_true rfl) hdg dX0_tryOrders_168 (fun v23 S24 _ => ?_)
        refine j_aload_n 4 dX0_tryOrders_171 rfl rfl ?_
        refine j_getr (ci := 1) (k := 2) rfl in_X1 (Nat.le_of_ble_eq_true rfl) rfl rfl fl_X0_57 dX0_tryOrders_172 (fun (v25 : Int) (hv25 : 0 ≤ v25) => ?_)
        refine j_iload 2 dX0_tryOrders_175 rfl ?_
        refine j_dup2 dX0_tryOrders_177 (fun h => nomatch h) (fun h => nomatch h) ?_
        refine j_iaload hv14 dX0_tryOrders_178 (fun (v26 : Int) (hv26 : R32 (v26)) => ?_)
        refine j_iload 1 dX0_tryOrders_179 rfl ?_
        refine j_iadd dX0_tryOrders_181 ?_
        refine j_iastore hv14 (w32_R _) dX0_tryOrders_182 (fun S27 => ?_)
        refine j_aload_n 4 dX0_tryOrders_183 rfl rfl ?_
        refine j_getr (ci := 1) (k := 0) rfl in_X1 (Nat.le_of_ble_eq_true rfl) rfl rfl fl_X0_62 dX0_tryOrders_184 (fun (v28 : Int) (hv28 : 0 ≤ v28) => ?_)
        refine j_iload 8 dX0_tryOrders_187 rfl ?_
        refine j_iconst dX0_tryOrders_189 ?_
        refine j_iastore h5 (jZ_R jz0) dX0_tryOrders_190 (fun S29 => ?_)
        refine j_sub [3, 4, 5, 6, 7, 8] rfl ?_
        exact p_f_X0_tryOrders_b191 hd0 hdg q_X0_tryOrders k42 x0 x1 x2 x3 x4 x5 S29 h0 h1 h2 h3 h4 h5
      · refine j_aload_n 3 dX0_tryOrders_118 rfl rfl ?_
        refine j_aload_n 4 dX0_tryOrders_119 rfl rfl ?_
        refine j_iload 0 dX0_tryOrders_120 rfl ?_
        refine j_iload_n 6 dX0_tryOrders_122 rfl rfl ?_
        refine j_iconst dX0_tryOrders_123 ?_
        refine j_iadd dX0_tryOrders_124 ?_
        refine j_iload 7 dX0_tryOrders_125 rfl ?_
        refine j_callV (ci := 0) (As := [(2, x1), (0, v17), (0, w32 (x3 + 1)), (0, x4)]) (st := []) kc_X0_tryOrders (q_X0_tryOrders x0 x1 v17 (w32 (x3 + 1)) x4 S12 h0 h1 hv17 (w32_R _) h4) rfl lm_X0_30 ki_X0_tryOrders ke_X0_tryOrders rfl (Nat.le_of_ble_eq_true rfl) hdg dX0_tryOrders_127 (fun v31 S32 _ => ?_)
        refine j_goto (tgt := 191) dX0_tryOrders_130 rfl ?_
        refine j_sub [3, 4, 5, 6, 7, 8] rfl ?_
        exact p_f_X0_tryOrders_b191 hd0 hdg q_X0_tryOrders k42 x0 x1 x2 x3 x4 x5 S32 h0 h1 h2 h3 h4 h5
    · refine j_goto (tgt := 191) dX0_tryOrders_63 rfl ?_
      exact p_f_X0_tryOrders_b191 hd0 hdg q_X0_tryOrders k42 x0 x1 x2 x3 x4 x5 S h0 h1 h2 h3 h4 h5
def f_X0_tryOrders_b42 (g_X0_tryOrders : Int → Int → Int → Int → Int → jSt → Option (Int × jSt)) : Int → Int → Int → Int → Int → Int → jSt → Option (Int × jSt) := jrep (β := Int → Int → Int → Int → Int → Int → jSt → Option (Int × jSt)) (fun _ _ _ _ _ _ _ => none) (fun r => f_X0_tryOrders_b42B g_X0_tryOrders r) jN
theorem p_f_X0_tryOrders_b42 {G : jG} {d : Nat} {S0 : jSt} (hd0 : 5 ≤ d) {g_X0_tryOrders : Int → Int → Int → Int → Int → jSt → Option (Int × jSt)} {dg : Nat} (hdg : dg + 1 ≤ d) (q_X0_tryOrders : ∀ (a0 : Int) (a1 : Int) (a2 : Int) (a3 : Int) (a4 : Int) (S : jSt), (0 ≤ (a0)) → (0 ≤ (a1)) → (R32 (a2)) → (R32 (a3)) → (R32 (a4)) → CT G yX0_tryOrders cX0_tryOrders 9 none dg ([(2, a0), (2, a1), (0, a2), (0, a3), (0, a4)].map jval) S (g_X0_tryOrders a0 a1 a2 a3 a4 S)) : ∀ (x0 : Int) (x1 : Int) (x2 : Int) (x3 : Int) (x4 : Int) (x5 : Int) (S : jSt), (0 ≤ (x0)) → (0 ≤ (x1)) → (R32 (x2)) → (R32 (x3)) → (R32 (x4)) → (R32 (x5)) → J G yX0_tryOrders cX0_tryOrders 9 none d S0 42 [(0, 2, x0), (1, 2, x1), (2, 0, x2), (3, 0, x3), (4, 0, x4), (5, 0, x5)] [] S (f_X0_tryOrders_b42 g_X0_tryOrders x0 x1 x2 x3 x4 x5 S) :=
  jrep_ind (P := fun (r : Int → Int → Int → Int → Int → Int → jSt → Option (Int × jSt)) => ∀ (x0 : Int) (x1 : Int) (x2 : Int) (x3 : Int) (x4 : Int) (x5 : Int) (S : jSt), (0 ≤ (x0)) → (0 ≤ (x1)) → (R32 (x2)) → (R32 (x3)) → (R32 (x4)) → (R32 (x5)) → J G yX0_tryOrders cX0_tryOrders 9 none d S0 42 [(0, 2, x0), (1, 2, x1), (2, 0, x2), (3, 0, x3), (4, 0, x4), (5, 0, x5)] [] S (r x0 x1 x2 x3 x4 x5 S)) (by intros; exact j_none) (fun r k => p_f_X0_tryOrders_b42B hd0 hdg q_X0_tryOrders k) jN
def f_X0_tryOrders_G (g_X0_tryOrders : Int → Int → Int → Int → Int → jSt → Option (Int × jSt)) (a0 : Int) (a1 : Int) (a2 : Int) (a3 : Int) (a4 : Int) (S : jSt) : Option (Int × jSt) :=
  if a2 = 0 then f_X0_tryOrders_b9 g_X0_tryOrders a0 a4 S else if a3 < 5 then f_X0_tryOrders_b42 g_X0_tryOrders a0 a1 a2 a3 a4 0 S else f_X0_tryOrders_b9 g_X0_tryOrders a0 a4 S
theorem e_X0_tryOrders_G {G : jG} {d : Nat} {S0 : jSt} (hd0 : 5 ≤ d) {g_X0_tryOrders : Int → Int → Int → Int → Int → jSt → Option (Int × jSt)} {dg : Nat} (hdg : dg + 1 ≤ d) (q_X0_tryOrders : ∀ (a0 : Int) (a1 : Int) (a2 : Int) (a3 : Int) (a4 : Int) (S : jSt), (0 ≤ (a0)) → (0 ≤ (a1)) → (R32 (a2)) → (R32 (a3)) → (R32 (a4)) → CT G yX0_tryOrders cX0_tryOrders 9 none dg ([(2, a0), (2, a1), (0, a2), (0, a3), (0, a4)].map jval) S (g_X0_tryOrders a0 a1 a2 a3 a4 S)) (a0 : Int) (a1 : Int) (a2 : Int) (a3 : Int) (a4 : Int) (S : jSt) (h0 : 0 ≤ (a0)) (h1 : 0 ≤ (a1)) (h2 : R32 (a2)) (h3 : R32 (a3)) (h4 : R32 (a4)) : J G yX0_tryOrders cX0_tryOrders 9 none d S0 0 [(0, 2, a0), (1, 2, a1), (2, 0, a2), (3, 0, a3), (4, 0, a4)] [] S (f_X0_tryOrders_G g_X0_tryOrders a0 a1 a2 a3 a4 S) := by
  unfold f_X0_tryOrders_G
  refine j_iload_n 2 dX0_tryOrders_0 rfl rfl ?_
  refine j_if_eq (tgt := 9) h2 dX0_tryOrders_1 rfl (fun _ => ?_) (fun _ => ?_)
  · refine j_sub [0, 4] rfl ?_
    exact p_f_X0_tryOrders_b9 hd0 hdg q_X0_tryOrders a0 a4 S h0 h4
  · refine j_iload_n 3 dX0_tryOrders_4 rfl rfl ?_
    refine j_iconst dX0_tryOrders_5 ?_
    refine j_icmp_lt (tgt := 39) h3 (j_r32 5 rfl) dX0_tryOrders_6 rfl (fun _ => ?_) (fun _ => ?_)
    · refine j_iconst dX0_tryOrders_39 ?_
      refine j_istore (lv' := [(5, 0, 0), (0, 2, a0), (1, 2, a1), (2, 0, a2), (3, 0, a3), (4, 0, a4)]) dX0_tryOrders_40 (Nat.le_of_ble_eq_true rfl) rfl ?_
      refine j_sub [1, 2, 3, 4, 5, 0] rfl ?_
      exact p_f_X0_tryOrders_b42 hd0 hdg q_X0_tryOrders a0 a1 a2 a3 a4 0 S h0 h1 h2 h3 h4 (jZ_R jz0)
    · refine j_sub [0, 4] rfl ?_
      exact p_f_X0_tryOrders_b9 hd0 hdg q_X0_tryOrders a0 a4 S h0 h4
def grp_X0_tryOrders : Nat → (Int → Int → Int → Int → Int → jSt → Option (Int × jSt)) := jrep (β := (Int → Int → Int → Int → Int → jSt → Option (Int × jSt))) ((fun _ _ _ _ _ _ => none)) (fun g => (f_X0_tryOrders_G g))
theorem cg_X0_tryOrders {G : jG} : ∀ n : Nat, (∀ (a0 : Int) (a1 : Int) (a2 : Int) (a3 : Int) (a4 : Int) (S : jSt), (0 ≤ (a0)) → (0 ≤ (a1)) → (R32 (a2)) → (R32 (a3)) → (R32 (a4)) → CT G yX0_tryOrders cX0_tryOrders 9 none (5 + n) ([(2, a0), (2, a1), (0, a2), (0, a3), (0, a4)].map jval) S (((grp_X0_tryOrders n)) a0 a1 a2 a3 a4 S))
  | 0 => by
    refine ?_
    all_goals (intros; intro _ _ _ h; cases h)
  | n + 1 => by
    have q_X0_tryOrders := cg_X0_tryOrders (G := G) n
    refine ?_
    · intro a0 a1 a2 a3 a4 S h0 h1 h2 h3 h4
      exact ct_of [(2, a0), (2, a1), (0, a2), (0, a3), (0, a4)] (by decide) rfl (Nat.le_of_ble_eq_true rfl) (e_X0_tryOrders_G (by omega) (dg := 5 + n) (by omega) q_X0_tryOrders a0 a1 a2 a3 a4 S h0 h1 h2 h3 h4)
def f_X0_tryOrders : Int → Int → Int → Int → Int → jSt → Option (Int × jSt) := (grp_X0_tryOrders 100)
theorem c_X0_tryOrders {G : jG} (a0 : Int) (a1 : Int) (a2 : Int) (a3 : Int) (a4 : Int) (S : jSt) (h0 : 0 ≤ (a0)) (h1 : 0 ≤ (a1)) (h2 : R32 (a2)) (h3 : R32 (a3)) (h4 : R32 (a4)) : CT G yX0_tryOrders cX0_tryOrders 9 none 105 ([(2, a0), (2, a1), (0, a2), (0, a3), (0, a4)].map jval) S (f_X0_tryOrders a0 a1 a2 a3 a4 S) := (cg_X0_tryOrders (G := G) 100) a0 a1 a2 a3 a4 S h0 h1 h2 h3 h4
-- X0_findOrder
def f_X0_findOrder (a0 : Int) (a1 : Int) (a2 : Int) (S : jSt) : Option (Int × jSt) :=
  fput S a0 0 0 (-1) (fun S1 => fcallv S1 a0 0 (f_X0_tryOrders a0 a1 a2 0 0 S1) (fun v2 S3 => some (0, S3)))
theorem e_X0_findOrder {G : jG} {d : Nat} {S0 : jSt} (hd0 : 106 ≤ d) (a0 : Int) (a1 : Int) (a2 : Int) (S : jSt) (h0 : 0 ≤ (a0)) (h1 : 0 ≤ (a1)) (h2 : R32 (a2)) : J G yX0_findOrder cX0_findOrder 3 none d S0 0 [(0, 2, a0), (1, 2, a1), (2, 0, a2)] [] S (f_X0_findOrder a0 a1 a2 S) := by
  unfold f_X0_findOrder
  refine j_aload_n 0 dX0_findOrder_0 rfl rfl ?_
  refine j_iconst dX0_findOrder_1 ?_
  refine j_puti (ci := 0) (k := 0) (ty0 := tyX0) rfl in_X0 (Nat.le_of_ble_eq_true rfl) rfl tyX0_ok nmX0 rfl rfl (by decide +kernel) (j_r32 (-1) rfl) fl_X0_26 dX0_findOrder_2 (fun S1 => ?_)
  refine j_aload_n 0 dX0_findOrder_5 rfl rfl ?_
  refine j_aload_n 1 dX0_findOrder_6 rfl rfl ?_
  refine j_iload_n 2 dX0_findOrder_7 rfl rfl ?_
  refine j_iconst dX0_findOrder_8 ?_
  refine j_iconst dX0_findOrder_9 ?_
  refine j_callV (ci := 0) (As := [(2, a1), (0, a2), (0, 0), (0, 0)]) (st := []) kc_X0_tryOrders (c_X0_tryOrders a0 a1 a2 0 0 S1 h0 h1 h2 (jZ_R jz0) (jZ_R jz0)) rfl lm_X0_30 ki_X0_tryOrders ke_X0_tryOrders rfl (Nat.le_of_ble_eq_true rfl) (Nat.le_trans (m := 106) (Nat.le_of_ble_eq_true rfl) hd0) dX0_findOrder_10 (fun v2 S3 _ => ?_)
  exact j_return dX0_findOrder_13
theorem c_X0_findOrder {G : jG} (a0 : Int) (a1 : Int) (a2 : Int) (S : jSt) (h0 : 0 ≤ (a0)) (h1 : 0 ≤ (a1)) (h2 : R32 (a2)) : CT G yX0_findOrder cX0_findOrder 3 none 106 ([(2, a0), (2, a1), (0, a2)].map jval) S (f_X0_findOrder a0 a1 a2 S) := ct_of [(2, a0), (2, a1), (0, a2)] (by decide) rfl (Nat.le_of_ble_eq_true rfl) (e_X0_findOrder (Nat.le_refl _) a0 a1 a2 S h0 h1 h2)
-- X0_init
def f_X0_init (a0 : Int) (a1 : Int) (a2 : Int) (S : jSt) : Option (Int × jSt) :=
  fnewa S 1 5 (fun v1 S2 => fput S2 a0 0 1 v1 (fun S3 => fnewa S3 1 5 (fun v4 S5 => fput S5 a0 0 6 v4 (fun S6 => fput S6 a0 0 7 a1 (fun S7 => fput S7 a0 0 8 a2 (fun S8 => some (0, S8)))))))
theorem e_X0_init {G : jG} {d : Nat} {S0 : jSt} (hd0 : 1 ≤ d) (a0 : Int) (a1 : Int) (a2 : Int) (S : jSt) (h0 : 0 ≤ (a0)) (h1 : 0 ≤ (a1)) (h2 : 0 ≤ (a2)) : J G yX0_init cX0_init 3 none d S0 0 [(0, 2, a0), (1, 2, a1), (2, 2, a2)] [] S (f_X0_init a0 a1 a2 S) := by
  unfold f_X0_init
  refine j_aload_n 0 dX0_init_0 rfl rfl ?_
  refine j_objInit lo_X0_3 oi_i oi_c (Nat.le_of_ble_eq_true rfl) (Nat.le_trans (Nat.le_of_ble_eq_true rfl) hd0) dX0_init_1 ?_
  refine j_aload_n 0 dX0_init_4 rfl rfl ?_
  refine j_iconst dX0_init_5 ?_
  refine j_newai (j_r32 5 rfl) ac_i dX0_init_6 (fun (v1 : Int) (S2 : jSt) hv1 => ?_)
  refine j_putFr (ci := 0) (k := 1) (ty0 := tyX0) rfl in_X0 (Nat.le_of_ble_eq_true rfl) rfl tyX0_ok nmX0 rfl (Or.inr ⟨_, rfl⟩) rfl rfl rfl (by decide +kernel) hv1 fl_X0_9 dX0_init_8 (fun S3 => ?_)
  refine j_aload_n 0 dX0_init_11 rfl rfl ?_
  refine j_iconst dX0_init_12 ?_
  refine j_newai (j_r32 5 rfl) ac_i dX0_init_13 (fun (v4 : Int) (S5 : jSt) hv4 => ?_)
  refine j_putFr (ci := 0) (k := 6) (ty0 := tyX0) rfl in_X0 (Nat.le_of_ble_eq_true rfl) rfl tyX0_ok nmX0 rfl (Or.inr ⟨_, rfl⟩) rfl rfl rfl (by decide +kernel) hv4 fl_X0_15 dX0_init_15 (fun S6 => ?_)
  refine j_aload_n 0 dX0_init_18 rfl rfl ?_
  refine j_aload_n 1 dX0_init_19 rfl rfl ?_
  refine j_putFr (ci := 0) (k := 7) (ty0 := tyX0) rfl in_X0 (Nat.le_of_ble_eq_true rfl) rfl tyX0_ok nmX0 rfl (Or.inl ⟨_, rfl⟩) rfl rfl rfl (by decide +kernel) h1 fl_X0_18 dX0_init_20 (fun S7 => ?_)
  refine j_aload_n 0 dX0_init_23 rfl rfl ?_
  refine j_aload_n 2 dX0_init_24 rfl rfl ?_
  refine j_putFr (ci := 0) (k := 8) (ty0 := tyX0) rfl in_X0 (Nat.le_of_ble_eq_true rfl) rfl tyX0_ok nmX0 rfl (Or.inl ⟨_, rfl⟩) rfl rfl rfl (by decide +kernel) h2 fl_X0_22 dX0_init_25 (fun S8 => ?_)
  exact j_return dX0_init_28
theorem c_X0_init {G : jG} (a0 : Int) (a1 : Int) (a2 : Int) (S : jSt) (h0 : 0 ≤ (a0)) (h1 : 0 ≤ (a1)) (h2 : 0 ≤ (a2)) : CT G yX0_init cX0_init 3 none 1 ([(2, a0), (2, a1), (2, a2)].map jval) S (f_X0_init a0 a1 a2 S) := ct_of [(2, a0), (2, a1), (2, a2)] (by decide) rfl (Nat.le_of_ble_eq_true rfl) (e_X0_init (Nat.le_refl _) a0 a1 a2 S h0 h1 h2)
-- X10_copyFrom
def f_X10_copyFrom_b203B (r203 : Int → Int → Int → jSt → Option (Int × jSt)) (x0 : Int) (x1 : Int) (x2 : Int) (S : jSt) : Option (Int × jSt) :=
  if 4 ≤ x2 then some (0, S) else fgetr S x0 10 5 (fun v48 => fgetr S x1 10 5 (fun v49 => fald S v49 x2 5 (fun v50 => fastr S v48 x2 5 6 v50 (fun S51 => flet (w32 (x2 + 1)) (fun v52 => r203 x0 x1 v52 S51)))))
theorem p_f_X10_copyFrom_b203B {G : jG} {d : Nat} {S0 : jSt} (hd0 : 1 ≤ d) {r203 : Int → Int → Int → jSt → Option (Int × jSt)} (k203 : ∀ (x0 : Int) (x1 : Int) (x2 : Int) (S : jSt), (0 ≤ (x0)) → (0 ≤ (x1)) → (R32 (x2)) → J G yX10_copyFrom cX10_copyFrom 3 none d S0 203 [(0, 2, x0), (1, 2, x1), (2, 0, x2)] [] S (r203 x0 x1 x2 S)) : ∀ (x0 : Int) (x1 : Int) (x2 : Int) (S : jSt), (0 ≤ (x0)) → (0 ≤ (x1)) → (R32 (x2)) → J G yX10_copyFrom cX10_copyFrom 3 none d S0 203 [(0, 2, x0), (1, 2, x1), (2, 0, x2)] [] S (f_X10_copyFrom_b203B r203 x0 x1 x2 S) := by
  intro x0 x1 x2 S h0 h1 h2
  unfold f_X10_copyFrom_b203B
  refine j_iload_n 2 dX10_copyFrom_203 rfl rfl ?_
  refine j_iconst dX10_copyFrom_204 ?_
  refine j_icmp_ge (tgt := 226) h2 (j_r32 4 rfl) dX10_copyFrom_205 rfl (fun _ => ?_) (fun _ => ?_)
  · exact j_return dX10_copyFrom_226
  · refine j_aload_n 0 dX10_copyFrom_208 rfl rfl ?_
    refine j_getr (ci := 10) (k := 5) rfl in_X10 (Nat.le_of_ble_eq_true rfl) rfl rfl fl_X10_20 dX10_copyFrom_209 (fun (v48 : Int) (hv48 : 0 ≤ v48) => ?_)
    refine j_iload_n 2 dX10_copyFrom_212 rfl rfl ?_
    refine j_aload_n 1 dX10_copyFrom_213 rfl rfl ?_
    refine j_getr (ci := 10) (k := 5) rfl in_X10 (Nat.le_of_ble_eq_true rfl) rfl rfl fl_X10_20 dX10_copyFrom_214 (fun (v49 : Int) (hv49 : 0 ≤ v49) => ?_)
    refine j_iload_n 2 dX10_copyFrom_217 rfl rfl ?_
    refine j_aaload5 h2 dX10_copyFrom_218 (fun v50 => ?_)
    refine j_aastore5 h2 dX10_copyFrom_219 (fun S51 => ?_)
    refine j_iincL (q := 2) dX10_copyFrom_220 rfl (Nat.le_of_ble_eq_true rfl) (fun v52 hv52 => ?_)
    refine j_lv (lv' := [(2, 0, v52), (0, 2, x0), (1, 2, x1)]) rfl ?_
    refine j_goto (tgt := 203) dX10_copyFrom_223 rfl ?_
    refine j_sub [1, 2, 0] rfl ?_
    exact k203 x0 x1 v52 S51 h0 h1 hv52
def f_X10_copyFrom_b203 : Int → Int → Int → jSt → Option (Int × jSt) := jrep (β := Int → Int → Int → jSt → Option (Int × jSt)) (fun _ _ _ _ => none) (fun r => f_X10_copyFrom_b203B r) jN
theorem p_f_X10_copyFrom_b203 {G : jG} {d : Nat} {S0 : jSt} (hd0 : 1 ≤ d) : ∀ (x0 : Int) (x1 : Int) (x2 : Int) (S : jSt), (0 ≤ (x0)) → (0 ≤ (x1)) → (R32 (x2)) → J G yX10_copyFrom cX10_copyFrom 3 none d S0 203 [(0, 2, x0), (1, 2, x1), (2, 0, x2)] [] S (f_X10_copyFrom_b203  x0 x1 x2 S) :=
  jrep_ind (P := fun (r : Int → Int → Int → jSt → Option (Int × jSt)) => ∀ (x0 : Int) (x1 : Int) (x2 : Int) (S : jSt), (0 ≤ (x0)) → (0 ≤ (x1)) → (R32 (x2)) → J G yX10_copyFrom cX10_copyFrom 3 none d S0 203 [(0, 2, x0), (1, 2, x1), (2, 0, x2)] [] S (r x0 x1 x2 S)) (by intros; exact j_none) (fun r k => p_f_X10_copyFrom_b203B hd0 k) jN
def f_X10_copyFrom (a0 : Int) (a1 : Int) (S : jSt) : Option (Int × jSt) :=
  fget S a1 10 0 (fun v1 => fput S a0 10 0 v1 (fun S2 => fget S2 a1 10 1 (fun v3 => fput S2 a0 10 1 v3 (fun S4 => fget S4 a1 10 4 (fun v5 => fput S4 a0 10 4 v5 (fun S6 => fget S6 a1 10 6 (fun v7 => fput S6 a0 10 6 v7 (fun S8 => fget S8 a1 10 7 (fun v9 => fput S8 a0 10 7 v9 (fun S10 => fget S10 a1 10 11 (fun v11 => fput S10 a0 10 11 v11 (fun S12 => fgetr S12 a1 10 2 (fun v13 => fgetr S12 a0 10 2 (fun v14 => fgetr S12 a0 10 2 (fun v15 => flen S12 v15 1 (fun v16 => fcopy S12 v13 0 v14 0 v16 (fun S17 => fgetr S17 a1 10 3 (fun v18 => fgetr S17 a0 10 3 (fun v19 => fgetr S17 a0 10 3 (fun v20 => flen S17 v20 1 (fun v21 => fcopy S17 v18 0 v19 0 v21 (fun S22 => fgetr S22 a1 10 8 (fun v23 => fgetr S22 a0 10 8 (fun v24 => fcopy S22 v23 0 v24 0 8 (fun S25 => fgetr S25 a1 10 9 (fun v26 => fgetr S25 a0 10 9 (fun v27 => fcopy S25 v26 0 v27 0 8 (fun S28 => fgetr S28 a1 10 10 (fun v29 => fgetr S28 a0 10 10 (fun v30 => fcopy S28 v29 0 v30 0 8 (fun S31 => fgetr S31 a1 10 12 (fun v32 => fgetr S31 a0 10 12 (fun v33 => fcopy S31 v32 0 v33 0 8 (fun S34 => fgetr S34 a1 10 13 (fun v35 => fgetr S34 a0 10 13 (fun v36 => fcopy S34 v35 0 v36 0 8 (fun S37 => fgetr S37 a1 10 14 (fun v38 => fgetr S37 v38 7 0 (fun v39 => fgetr S37 a0 10 14 (fun v40 => fgetr S37 v40 7 0 (fun v41 => fcopy S37 v39 0 v41 0 6 (fun S42 => fgetr S42 a1 10 15 (fun v43 => fgetr S42 v43 3 0 (fun v44 => fgetr S42 a0 10 15 (fun v45 => fgetr S42 v45 3 0 (fun v46 => fcopy S42 v44 0 v46 0 6 (fun S47 => f_X10_copyFrom_b203 a0 a1 0 S47)))))))))))))))))))))))))))))))))))))))))))))))
theorem e_X10_copyFrom {G : jG} {d : Nat} {S0 : jSt} (hd0 : 1 ≤ d) (a0 : Int) (a1 : Int) (S : jSt) (h0 : 0 ≤ (a0)) (h1 : 0 ≤ (a1)) : J G yX10_copyFrom cX10_copyFrom 3 none d S0 0 [(0, 2, a0), (1, 2, a1)] [] S (f_X10_copyFrom a0 a1 S) := by
  unfold f_X10_copyFrom
  refine j_aload_n 0 dX10_copyFrom_0 rfl rfl ?_
  refine j_aload_n 1 dX10_copyFrom_1 rfl rfl ?_
  refine j_get (ci := 10) (k := 0) (t := 0) rfl in_X10 (Nat.le_of_ble_eq_true rfl) rfl rfl fl_X10_57 dX10_copyFrom_2 (fun (v1 : Int) (hv1 : R32 (v1)) => ?_)
  refine j_puti (ci := 10) (k := 0) (ty0 := tyX10) rfl in_X10 (Nat.le_of_ble_eq_true rfl) rfl tyX10_ok nmX10 rfl rfl (by decide +kernel) hv1 fl_X10_57 dX10_copyFrom_5 (fun S2 => ?_)
  refine j_aload_n 0 dX10_copyFrom_8 rfl rfl ?_
  refine j_aload_n 1 dX10_copyFrom_9 rfl rfl ?_
  refine j_get (ci := 10) (k := 1) (t := 0) rfl in_X10 (Nat.le_of_ble_eq_true rfl) rfl rfl fl_X10_60 dX10_copyFrom_10 (fun (v3 : Int) (hv3 : R32 (v3)) => ?_)
  refine j_puti (ci := 10) (k := 1) (ty0 := tyX10) rfl in_X10 (Nat.le_of_ble_eq_true rfl) rfl tyX10_ok nmX10 rfl rfl (by decide +kernel) hv3 fl_X10_60 dX10_copyFrom_13 (fun S4 => ?_)
  refine j_aload_n 0 dX10_copyFrom_16 rfl rfl ?_
  refine j_aload_n 1 dX10_copyFrom_17 rfl rfl ?_
  refine j_get (ci := 10) (k := 4) (t := 0) rfl in_X10 (Nat.le_of_ble_eq_true rfl) rfl rfl fl_X10_63 dX10_copyFrom_18 (fun (v5 : Int) (hv5 : R32 (v5)) => ?_)
  refine j_puti (ci := 10) (k := 4) (ty0 := tyX10) rfl in_X10 (Nat.le_of_ble_eq_true rfl) rfl tyX10_ok nmX10 rfl rfl (by decide +kernel) hv5 fl_X10_63 dX10_copyFrom_21 (fun S6 => ?_)
  refine j_aload_n 0 dX10_copyFrom_24 rfl rfl ?_
  refine j_aload_n 1 dX10_copyFrom_25 rfl rfl ?_
  refine j_get (ci := 10) (k := 6) (t := 0) rfl in_X10 (Nat.le_of_ble_eq_true rfl) rfl rfl fl_X10_24 dX10_copyFrom_26 (fun (v7 : Int) (hv7 : R32 (v7)) => ?_)
  refine j_puti (ci := 10) (k := 6) (ty0 := tyX10) rfl in_X10 (Nat.le_of_ble_eq_true rfl) rfl tyX10_ok nmX10 rfl rfl (by decide +kernel) hv7 fl_X10_24 dX10_copyFrom_29 (fun S8 => ?_)
  refine j_aload_n 0 dX10_copyFrom_32 rfl rfl ?_
  refine j_aload_n 1 dX10_copyFrom_33 rfl rfl ?_
  refine j_get (ci := 10) (k := 7) (t := 0) rfl in_X10 (Nat.le_of_ble_eq_true rfl) rfl rfl fl_X10_66 dX10_copyFrom_34 (fun (v9 : Int) (hv9 : R32 (v9)) => ?_)
  refine j_puti (ci := 10) (k := 7) (ty0 := tyX10) rfl in_X10 (Nat.le_of_ble_eq_true rfl) rfl tyX10_ok nmX10 rfl rfl (by decide +kernel) hv9 fl_X10_66 dX10_copyFrom_37 (fun S10 => ?_)
  refine j_aload_n 0 dX10_copyFrom_40 rfl rfl ?_
  refine j_aload_n 1 dX10_copyFrom_41 rfl rfl ?_
  refine j_get (ci := 10) (k := 11) (t := 0) rfl in_X10 (Nat.le_of_ble_eq_true rfl) rfl rfl fl_X10_69 dX10_copyFrom_42 (fun (v11 : Int) (hv11 : R32 (v11)) => ?_)
  refine j_puti (ci := 10) (k := 11) (ty0 := tyX10) rfl in_X10 (Nat.le_of_ble_eq_true rfl) rfl tyX10_ok nmX10 rfl rfl (by decide +kernel) hv11 fl_X10_69 dX10_copyFrom_45 (fun S12 => ?_)
  refine j_aload_n 1 dX10_copyFrom_48 rfl rfl ?_
  refine j_getr (ci := 10) (k := 2) rfl in_X10 (Nat.le_of_ble_eq_true rfl) rfl rfl fl_X10_9 dX10_copyFrom_49 (fun (v13 : Int) (hv13 : 0 ≤ v13) => ?_)
  refine j_iconst dX10_copyFrom_52 ?_
  refine j_aload_n 0 dX10_copyFrom_53 rfl rfl ?_
  refine j_getr (ci := 10) (k := 2) rfl in_X10 (Nat.le_of_ble_eq_true rfl) rfl rfl fl_X10_9 dX10_copyFrom_54 (fun (v14 : Int) (hv14 : 0 ≤ v14) => ?_)
  refine j_iconst dX10_copyFrom_57 ?_
  refine j_aload_n 0 dX10_copyFrom_58 rfl rfl ?_
  refine j_getr (ci := 10) (k := 2) rfl in_X10 (Nat.le_of_ble_eq_true rfl) rfl rfl fl_X10_9 dX10_copyFrom_59 (fun (v15 : Int) (hv15 : 0 ≤ v15) => ?_)
  refine j_alen dX10_copyFrom_62 (fun (v16 : Int) (hv16 : R32 v16) => ?_)
  refine j_copy (jZ_R jz0) (jZ_R jz0) hv16 la_X10_72 ay_n ay_s ay_i (Nat.le_of_ble_eq_true rfl) (Nat.le_trans (Nat.le_of_ble_eq_true rfl) hd0) dX10_copyFrom_63 (fun S17 => ?_)
  refine j_aload_n 1 dX10_copyFrom_66 rfl rfl ?_
  refine j_getr (ci := 10) (k := 3) rfl in_X10 (Nat.le_of_ble_eq_true rfl) rfl rfl fl_X10_15 dX10_copyFrom_67 (fun (v18 : Int) (hv18 : 0 ≤ v18) => ?_)
  refine j_iconst dX10_copyFrom_70 ?_
  refine j_aload_n 0 dX10_copyFrom_71 rfl rfl ?_
  refine j_getr (ci := 10) (k := 3) rfl in_X10 (Nat.le_of_ble_eq_true rfl) rfl rfl fl_X10_15 dX10_copyFrom_72 (fun (v19 : Int) (hv19 : 0 ≤ v19) => ?_)
  refine j_iconst dX10_copyFrom_75 ?_
  refine j_aload_n 0 dX10_copyFrom_76 rfl rfl ?_
  refine j_getr (ci := 10) (k := 3) rfl in_X10 (Nat.le_of_ble_eq_true rfl) rfl rfl fl_X10_15 dX10_copyFrom_77 (fun (v20 : Int) (hv20 : 0 ≤ v20) => ?_)
  refine j_alen dX10_copyFrom_80 (fun (v21 : Int) (hv21 : R32 v21) => ?_)
  refine j_copy (jZ_R jz0) (jZ_R jz0) hv21 la_X10_72 ay_n ay_s ay_i (Nat.le_of_ble_eq_true rfl) (Nat.le_trans (Nat.le_of_ble_eq_true rfl) hd0) dX10_copyFrom_81 (fun S22 => ?_)
  refine j_aload_n 1 dX10_copyFrom_84 rfl rfl ?_
  refine j_getr (ci := 10) (k := 8) rfl in_X10 (Nat.le_of_ble_eq_true rfl) rfl rfl fl_X10_28 dX10_copyFrom_85 (fun (v23 : Int) (hv23 : 0 ≤ v23) => ?_)
  refine j_iconst dX10_copyFrom_88 ?_
  refine j_aload_n 0 dX10_copyFrom_89 rfl rfl ?_
  refine j_getr (ci := 10) (k := 8) rfl in_X10 (Nat.le_of_ble_eq_true rfl) rfl rfl fl_X10_28 dX10_copyFrom_90 (fun (v24 : Int) (hv24 : 0 ≤ v24) => ?_)
  refine j_iconst dX10_copyFrom_93 ?_
  refine j_bipush dX10_copyFrom_94 (by decide) ?_
  refine j_copy (jZ_R jz0) (jZ_R jz0) (j_r32 8 rfl) la_X10_72 ay_n ay_s ay_i (Nat.le_of_ble_eq_true rfl) (Nat.le_trans (Nat.le_of_ble_eq_true rfl) hd0) dX10_copyFrom_96 (fun S25 => ?_)
  refine j_aload_n 1 dX10_copyFrom_99 rfl rfl ?_
  refine j_getr (ci := 10) (k := 9) rfl in_X10 (Nat.le_of_ble_eq_true rfl) rfl rfl fl_X10_31 dX10_copyFrom_100 (fun (v26 : Int) (hv26 : 0 ≤ v26) => ?_)
  refine j_iconst dX10_copyFrom_103 ?_
  refine j_aload_n 0 dX10_copyFrom_104 rfl rfl ?_
  refine j_getr (ci := 10) (k := 9) rfl in_X10 (Nat.le_of_ble_eq_true rfl) rfl rfl fl_X10_31 dX10_copyFrom_105 (fun (v27 : Int) (hv27 : 0 ≤ v27) => ?_)
  refine j_iconst dX10_copyFrom_108 ?_
  refine j_bipush dX10_copyFrom_109 (by decide) ?_
  refine j_copy (jZ_R jz0) (jZ_R jz0) (j_r32 8 rfl) la_X10_72 ay_n ay_s ay_i (Nat.le_of_ble_eq_true rfl) (Nat.le_trans (Nat.le_of_ble_eq_true rfl) hd0) dX10_copyFrom_111 (fun S28 => ?_)
  refine j_aload_n 1 dX10_copyFrom_114 rfl rfl ?_
  refine j_getr (ci := 10) (k := 10) rfl in_X10 (Nat.le_of_ble_eq_true rfl) rfl rfl fl_X10_34 dX10_copyFrom_115 (fun (v29 : Int) (hv29 : 0 ≤ v29) => ?_)
  refine j_iconst dX10_copyFrom_118 ?_
  refine j_aload_n 0 dX10_copyFrom_119 rfl rfl ?_
  refine j_getr (ci := 10) (k := 10) rfl in_X10 (Nat.le_of_ble_eq_true rfl) rfl rfl fl_X10_34 dX10_copyFrom_120 (fun (v30 : Int) (hv30 : 0 ≤ v30) => ?_)
  refine j_iconst dX10_copyFrom_123 ?_
  refine j_bipush dX10_copyFrom_124 (by decide) ?_
  refine j_copy (jZ_R jz0) (jZ_R jz0) (j_r32 8 rfl) la_X10_72 ay_n ay_s ay_i (Nat.le_of_ble_eq_true rfl) (Nat.le_trans (Nat.le_of_ble_eq_true rfl) hd0) dX10_copyFrom_126 (fun S31 => ?_)
  refine j_aload_n 1 dX10_copyFrom_129 rfl rfl ?_
  refine j_getr (ci := 10) (k := 12) rfl in_X10 (Nat.le_of_ble_eq_true rfl) rfl rfl fl_X10_37 dX10_copyFrom_130 (fun (v32 : Int) (hv32 : 0 ≤ v32) => ?_)
  refine j_iconst dX10_copyFrom_133 ?_
  refine j_aload_n 0 dX10_copyFrom_134 rfl rfl ?_
  refine j_getr (ci := 10) (k := 12) rfl in_X10 (Nat.le_of_ble_eq_true rfl) rfl rfl fl_X10_37 dX10_copyFrom_135 (fun (v33 : Int) (hv33 : 0 ≤ v33) => ?_)
  refine j_iconst dX10_copyFrom_138 ?_
  refine j_bipush dX10_copyFrom_139 (by decide) ?_
  refine j_copy (jZ_R jz0) (jZ_R jz0) (j_r32 8 rfl) la_X10_72 ay_n ay_s ay_i (Nat.le_of_ble_eq_true rfl) (Nat.le_trans (Nat.le_of_ble_eq_true rfl) hd0) dX10_copyFrom_141 (fun S34 => ?_)
  refine j_aload_n 1 dX10_copyFrom_144 rfl rfl ?_
  refine j_getr (ci := 10) (k := 13) rfl in_X10 (Nat.le_of_ble_eq_true rfl) rfl rfl fl_X10_40 dX10_copyFrom_145 (fun (v35 : Int) (hv35 : 0 ≤ v35) => ?_)
  refine j_iconst dX10_copyFrom_148 ?_
  refine j_aload_n 0 dX10_copyFrom_149 rfl rfl ?_
  refine j_getr (ci := 10) (k := 13) rfl in_X10 (Nat.le_of_ble_eq_true rfl) rfl rfl fl_X10_40 dX10_copyFrom_150 (fun (v36 : Int) (hv36 : 0 ≤ v36) => ?_)
  refine j_iconst dX10_copyFrom_153 ?_
  refine j_bipush dX10_copyFrom_154 (by decide) ?_
  refine j_copy (jZ_R jz0) (jZ_R jz0) (j_r32 8 rfl) la_X10_72 ay_n ay_s ay_i (Nat.le_of_ble_eq_true rfl) (Nat.le_trans (Nat.le_of_ble_eq_true rfl) hd0) dX10_copyFrom_156 (fun S37 => ?_)
  refine j_aload_n 1 dX10_copyFrom_159 rfl rfl ?_
  refine j_getr (ci := 10) (k := 14) rfl in_X10 (Nat.le_of_ble_eq_true rfl) rfl rfl fl_X10_46 dX10_copyFrom_160 (fun (v38 : Int) (hv38 : 0 ≤ v38) => ?_)
  refine j_getr (ci := 7) (k := 0) rfl in_X7 (Nat.le_of_ble_eq_true rfl) rfl rfl fl_X10_78 dX10_copyFrom_163 (fun (v39 : Int) (hv39 : 0 ≤ v39) => ?_)
  refine j_iconst dX10_copyFrom_166 ?_
  refine j_aload_n 0 dX10_copyFrom_167 rfl rfl ?_
  refine j_getr (ci := 10) (k := 14) rfl in_X10 (Nat.le_of_ble_eq_true rfl) rfl rfl fl_X10_46 dX10_copyFrom_168 (fun (v40 : Int) (hv40 : 0 ≤ v40) => ?_)
  refine j_getr (ci := 7) (k := 0) rfl in_X7 (Nat.le_of_ble_eq_true rfl) rfl rfl fl_X10_78 dX10_copyFrom_171 (fun (v41 : Int) (hv41 : 0 ≤ v41) => ?_)
  refine j_iconst dX10_copyFrom_174 ?_
  refine j_bipush dX10_copyFrom_175 (by decide) ?_
  refine j_copy (jZ_R jz0) (jZ_R jz0) (j_r32 6 rfl) la_X10_72 ay_n ay_s ay_i (Nat.le_of_ble_eq_true rfl) (Nat.le_trans (Nat.le_of_ble_eq_true rfl) hd0) dX10_copyFrom_177 (fun S42 => ?_)
  refine j_aload_n 1 dX10_copyFrom_180 rfl rfl ?_
  refine j_getr (ci := 10) (k := 15) rfl in_X10 (Nat.le_of_ble_eq_true rfl) rfl rfl fl_X10_53 dX10_copyFrom_181 (fun (v43 : Int) (hv43 : 0 ≤ v43) => ?_)
  refine j_getr (ci := 3) (k := 0) rfl in_X3 (Nat.le_of_ble_eq_true rfl) rfl rfl fl_X10_81 dX10_copyFrom_184 (fun (v44 : Int) (hv44 : 0 ≤ v44) => ?_)
  refine j_iconst dX10_copyFrom_187 ?_
  refine j_aload_n 0 dX10_copyFrom_188 rfl rfl ?_
  refine j_getr (ci := 10) (k := 15) rfl in_X10 (Nat.le_of_ble_eq_true rfl) rfl rfl fl_X10_53 dX10_copyFrom_189 (fun (v45 : Int) (hv45 : 0 ≤ v45) => ?_)
  refine j_getr (ci := 3) (k := 0) rfl in_X3 (Nat.le_of_ble_eq_true rfl) rfl rfl fl_X10_81 dX10_copyFrom_192 (fun (v46 : Int) (hv46 : 0 ≤ v46) => ?_)
  refine j_iconst dX10_copyFrom_195 ?_
  refine j_bipush dX10_copyFrom_196 (by decide) ?_
  refine j_copy (jZ_R jz0) (jZ_R jz0) (j_r32 6 rfl) la_X10_72 ay_n ay_s ay_i (Nat.le_of_ble_eq_true rfl) (Nat.le_trans (Nat.le_of_ble_eq_true rfl) hd0) dX10_copyFrom_198 (fun S47 => ?_)
  refine j_iconst dX10_copyFrom_201 ?_
  refine j_istore_n (lv' := [(2, 0, 0), (0, 2, a0), (1, 2, a1)]) dX10_copyFrom_202 rfl (Nat.le_of_ble_eq_true rfl) rfl ?_
  refine j_sub [1, 2, 0] rfl ?_
  exact p_f_X10_copyFrom_b203 hd0 a0 a1 0 S47 h0 h1 (jZ_R jz0)
theorem c_X10_copyFrom {G : jG} (a0 : Int) (a1 : Int) (S : jSt) (h0 : 0 ≤ (a0)) (h1 : 0 ≤ (a1)) : CT G yX10_copyFrom cX10_copyFrom 3 none 1 ([(2, a0), (2, a1)].map jval) S (f_X10_copyFrom a0 a1 S) := ct_of [(2, a0), (2, a1)] (by decide) rfl (Nat.le_of_ble_eq_true rfl) (e_X10_copyFrom (Nat.le_refl _) a0 a1 S h0 h1)
-- X10_hasBidder
def f_X10_hasBidder (a0 : Int) (a1 : Int) (S : jSt) : Option (Int × jSt) :=
  fget S a0 10 1 (fun v1 => fcall (f_X11_within a1 0 (w32 (v1 - 1)) S) (fun v2 S3 => some (v2, S3)))
theorem e_X10_hasBidder {G : jG} {d : Nat} {S0 : jSt} (hd0 : 2 ≤ d) (a0 : Int) (a1 : Int) (S : jSt) (h0 : 0 ≤ (a0)) (h1 : R32 (a1)) : J G yX10_hasBidder cX10_hasBidder 2 (some .boolean) d S0 0 [(0, 2, a0), (1, 0, a1)] [] S (f_X10_hasBidder a0 a1 S) := by
  unfold f_X10_hasBidder
  refine j_iload_n 1 dX10_hasBidder_0 rfl rfl ?_
  refine j_iconst dX10_hasBidder_1 ?_
  refine j_aload_n 0 dX10_hasBidder_2 rfl rfl ?_
  refine j_get (ci := 10) (k := 1) (t := 0) rfl in_X10 (Nat.le_of_ble_eq_true rfl) rfl rfl fl_X10_60 dX10_hasBidder_3 (fun (v1 : Int) (hv1 : R32 (v1)) => ?_)
  refine j_iconst dX10_hasBidder_6 ?_
  refine j_isub dX10_hasBidder_7 ?_
  refine j_callSN (As := [(0, a1), (0, 0), (0, w32 (v1 - 1))]) (st := []) (host := RX11) kc_X11_within (c_X11_within a1 0 (w32 (v1 - 1)) S h1 (jZ_R jz0) (w32_R _)) (by decide +kernel) ks_X11_within rfl (Nat.le_of_ble_eq_true rfl) (Nat.le_trans (m := 2) (Nat.le_of_ble_eq_true rfl) hd0) dX10_hasBidder_8 (fun (v2 : Int) (S3 : jSt) (hv2 : (v2) = 0 ∨ (v2) = 1) => ?_)
  exact j_zreturn hv2 dX10_hasBidder_11
theorem c_X10_hasBidder {G : jG} (a0 : Int) (a1 : Int) (S : jSt) (h0 : 0 ≤ (a0)) (h1 : R32 (a1)) : CT G yX10_hasBidder cX10_hasBidder 2 (some .boolean) 2 ([(2, a0), (0, a1)].map jval) S (f_X10_hasBidder a0 a1 S) := ct_of [(2, a0), (0, a1)] (by decide) rfl (Nat.le_of_ble_eq_true rfl) (e_X10_hasBidder (Nat.le_refl _) a0 a1 S h0 h1)
-- X10_hasLots
def f_X10_hasLots_b19 (x0 : Int) (S : jSt) : Option (Int × jSt) :=
  some (x0, S)
theorem p_f_X10_hasLots_b19 {G : jG} {d : Nat} {S0 : jSt} (hd0 : 1 ≤ d) : ∀ (x0 : Int) (S : jSt), ((x0) = 0 ∨ (x0) = 1) → J G yX10_hasLots cX10_hasLots 2 (some .boolean) d S0 19 [] [(0, x0)] S (f_X10_hasLots_b19  x0 S) := by
  intro x0 S h0
  unfold f_X10_hasLots_b19
  exact j_zreturn h0 dX10_hasLots_19
def f_X10_hasLots_b18 (S : jSt) : Option (Int × jSt) :=
  f_X10_hasLots_b19 0 S
theorem p_f_X10_hasLots_b18 {G : jG} {d : Nat} {S0 : jSt} (hd0 : 1 ≤ d) : ∀ (S : jSt), J G yX10_hasLots cX10_hasLots 2 (some .boolean) d S0 18 [] [] S (f_X10_hasLots_b18   S) := by
  intro S
  unfold f_X10_hasLots_b18
  refine j_iconst dX10_hasLots_18 ?_
  exact p_f_X10_hasLots_b19 hd0 0 S jz0
def f_X10_hasLots (a0 : Int) (a1 : Int) (S : jSt) : Option (Int × jSt) :=
  if a1 < 0 then f_X10_hasLots_b18 S else fget S a0 10 0 (fun v1 => if (ishl32 1 v1) ≤ a1 then f_X10_hasLots_b18 S else f_X10_hasLots_b19 1 S)
theorem e_X10_hasLots {G : jG} {d : Nat} {S0 : jSt} (hd0 : 1 ≤ d) (a0 : Int) (a1 : Int) (S : jSt) (h0 : 0 ≤ (a0)) (h1 : R32 (a1)) : J G yX10_hasLots cX10_hasLots 2 (some .boolean) d S0 0 [(0, 2, a0), (1, 0, a1)] [] S (f_X10_hasLots a0 a1 S) := by
  unfold f_X10_hasLots
  refine j_iload_n 1 dX10_hasLots_0 rfl rfl ?_
  refine j_if_lt (tgt := 18) h1 dX10_hasLots_1 rfl (fun _ => ?_) (fun _ => ?_)
  · refine j_sub [] rfl ?_
    exact p_f_X10_hasLots_b18 hd0 S
  · refine j_iload_n 1 dX10_hasLots_4 rfl rfl ?_
    refine j_iconst dX10_hasLots_5 ?_
    refine j_aload_n 0 dX10_hasLots_6 rfl rfl ?_
    refine j_get (ci := 10) (k := 0) (t := 0) rfl in_X10 (Nat.le_of_ble_eq_true rfl) rfl rfl fl_X10_57 dX10_hasLots_7 (fun (v1 : Int) (hv1 : R32 (v1)) => ?_)
    refine j_ishl dX10_hasLots_10 ?_
    refine j_icmp_ge (tgt := 18) h1 (ishl32_R _ _) dX10_hasLots_11 rfl (fun _ => ?_) (fun _ => ?_)
    · refine j_sub [] rfl ?_
      exact p_f_X10_hasLots_b18 hd0 S
    · refine j_iconst dX10_hasLots_14 ?_
      refine j_goto (tgt := 19) dX10_hasLots_15 rfl ?_
      refine j_sub [] rfl ?_
      exact p_f_X10_hasLots_b19 hd0 1 S jz1
theorem c_X10_hasLots {G : jG} (a0 : Int) (a1 : Int) (S : jSt) (h0 : 0 ≤ (a0)) (h1 : R32 (a1)) : CT G yX10_hasLots cX10_hasLots 2 (some .boolean) 1 ([(2, a0), (0, a1)].map jval) S (f_X10_hasLots a0 a1 S) := ct_of [(2, a0), (0, a1)] (by decide) rfl (Nat.le_of_ble_eq_true rfl) (e_X10_hasLots (Nat.le_refl _) a0 a1 S h0 h1)
-- X10_hasText
def f_X10_hasText (a0 : Int) (a1 : Int) (S : jSt) : Option (Int × jSt) :=
  fget S a0 10 4 (fun v1 => fcall (f_X11_within a1 0 (w32 (v1 - 1)) S) (fun v2 S3 => some (v2, S3)))
theorem e_X10_hasText {G : jG} {d : Nat} {S0 : jSt} (hd0 : 2 ≤ d) (a0 : Int) (a1 : Int) (S : jSt) (h0 : 0 ≤ (a0)) (h1 : R32 (a1)) : J G yX10_hasText cX10_hasText 2 (some .boolean) d S0 0 [(0, 2, a0), (1, 0, a1)] [] S (f_X10_hasText a0 a1 S) := by
  unfold f_X10_hasText
  refine j_iload_n 1 dX10_hasText_0 rfl rfl ?_
  refine j_iconst dX10_hasText_1 ?_
  refine j_aload_n 0 dX10_hasText_2 rfl rfl ?_
  refine j_get (ci := 10) (k := 4) (t := 0) rfl in_X10 (Nat.le_of_ble_eq_true rfl) rfl rfl fl_X10_63 dX10_hasText_3 (fun (v1 : Int) (hv1 : R32 (v1)) => ?_)
  refine j_iconst dX10_hasText_6 ?_
  refine j_isub dX10_hasText_7 ?_
  refine j_callSN (As := [(0, a1), (0, 0), (0, w32 (v1 - 1))]) (st := []) (host := RX11) kc_X11_within (c_X11_within a1 0 (w32 (v1 - 1)) S h1 (jZ_R jz0) (w32_R _)) (by decide +kernel) ks_X11_within rfl (Nat.le_of_ble_eq_true rfl) (Nat.le_trans (m := 2) (Nat.le_of_ble_eq_true rfl) hd0) dX10_hasText_8 (fun (v2 : Int) (S3 : jSt) (hv2 : (v2) = 0 ∨ (v2) = 1) => ?_)
  exact j_zreturn hv2 dX10_hasText_11
theorem c_X10_hasText {G : jG} (a0 : Int) (a1 : Int) (S : jSt) (h0 : 0 ≤ (a0)) (h1 : R32 (a1)) : CT G yX10_hasText cX10_hasText 2 (some .boolean) 2 ([(2, a0), (0, a1)].map jval) S (f_X10_hasText a0 a1 S) := ct_of [(2, a0), (0, a1)] (by decide) rfl (Nat.le_of_ble_eq_true rfl) (e_X10_hasText (Nat.le_refl _) a0 a1 S h0 h1)
-- X3_init
def f_X3_init (a0 : Int) (S : jSt) : Option (Int × jSt) :=
  fnewa S 1 6 (fun v1 S2 => fast S2 v1 0 1 10 (fun S3 => fast S3 v1 1 1 0 (fun S4 => fast S4 v1 2 1 0 (fun S5 => fast S5 v1 3 1 0 (fun S6 => fast S6 v1 4 1 0 (fun S7 => fast S7 v1 5 1 0 (fun S8 => fput S8 a0 3 0 v1 (fun S9 => some (0, S9)))))))))
theorem e_X3_init {G : jG} {d : Nat} {S0 : jSt} (hd0 : 1 ≤ d) (a0 : Int) (S : jSt) (h0 : 0 ≤ (a0)) : J G yX3_init cX3_init 1 none d S0 0 [(0, 2, a0)] [] S (f_X3_init a0 S) := by
  unfold f_X3_init
  refine j_aload_n 0 dX3_init_0 rfl rfl ?_
  refine j_objInit lo_X3_3 oi_i oi_c (Nat.le_of_ble_eq_true rfl) (Nat.le_trans (Nat.le_of_ble_eq_true rfl) hd0) dX3_init_1 ?_
  refine j_aload_n 0 dX3_init_4 rfl rfl ?_
  refine j_bipush dX3_init_5 (by decide) ?_
  refine j_newai (j_r32 6 rfl) ac_i dX3_init_7 (fun (v1 : Int) (S2 : jSt) hv1 => ?_)
  refine j_dup dX3_init_9 (fun h => nomatch h) ?_
  refine j_iconst dX3_init_10 ?_
  refine j_bipush dX3_init_11 (by decide) ?_
  refine j_iastore (jZ_R jz0) (j_r32 10 rfl) dX3_init_13 (fun S3 => ?_)
  refine j_dup dX3_init_14 (fun h => nomatch h) ?_
  refine j_iconst dX3_init_15 ?_
  refine j_iconst dX3_init_16 ?_
  refine j_iastore (jZ_R jz1) (jZ_R jz0) dX3_init_17 (fun S4 => ?_)
  refine j_dup dX3_init_18 (fun h => nomatch h) ?_
  refine j_iconst dX3_init_19 ?_
  refine j_iconst dX3_init_20 ?_
  refine j_iastore (j_r32 2 rfl) (jZ_R jz0) dX3_init_21 (fun S5 => ?_)
  refine j_dup dX3_init_22 (fun h => nomatch h) ?_
  refine j_iconst dX3_init_23 ?_
  refine j_iconst dX3_init_24 ?_
  refine j_iastore (j_r32 3 rfl) (jZ_R jz0) dX3_init_25 (fun S6 => ?_)
  refine j_dup dX3_init_26 (fun h => nomatch h) ?_
  refine j_iconst dX3_init_27 ?_
  refine j_iconst dX3_init_28 ?_
  refine j_iastore (j_r32 4 rfl) (jZ_R jz0) dX3_init_29 (fun S7 => ?_)
  refine j_dup dX3_init_30 (fun h => nomatch h) ?_
  refine j_iconst dX3_init_31 ?_
  refine j_iconst dX3_init_32 ?_
  refine j_iastore (j_r32 5 rfl) (jZ_R jz0) dX3_init_33 (fun S8 => ?_)
  refine j_putFr (ci := 3) (k := 0) (ty0 := tyX3) rfl in_X3 (Nat.le_of_ble_eq_true rfl) rfl tyX3_ok nmX3 rfl (Or.inr ⟨_, rfl⟩) rfl rfl rfl (by decide +kernel) hv1 fl_X3_9 dX3_init_34 (fun S9 => ?_)
  exact j_return dX3_init_37
theorem c_X3_init {G : jG} (a0 : Int) (S : jSt) (h0 : 0 ≤ (a0)) : CT G yX3_init cX3_init 1 none 1 ([(2, a0)].map jval) S (f_X3_init a0 S) := ct_of [(2, a0)] (by decide) rfl (Nat.le_of_ble_eq_true rfl) (e_X3_init (Nat.le_refl _) a0 S h0)
-- X7_init
def f_X7_init (a0 : Int) (S : jSt) : Option (Int × jSt) :=
  fnewa S 1 6 (fun v1 S2 => fast S2 v1 0 1 2 (fun S3 => fast S3 v1 1 1 5 (fun S4 => fast S4 v1 2 1 10 (fun S5 => fast S5 v1 3 1 20 (fun S6 => fast S6 v1 4 1 40 (fun S7 => fast S7 v1 5 1 16 (fun S8 => fput S8 a0 7 0 v1 (fun S9 => some (0, S9)))))))))
theorem e_X7_init {G : jG} {d : Nat} {S0 : jSt} (hd0 : 1 ≤ d) (a0 : Int) (S : jSt) (h0 : 0 ≤ (a0)) : J G yX7_init cX7_init 1 none d S0 0 [(0, 2, a0)] [] S (f_X7_init a0 S) := by
  unfold f_X7_init
  refine j_aload_n 0 dX7_init_0 rfl rfl ?_
  refine j_objInit lo_X7_3 oi_i oi_c (Nat.le_of_ble_eq_true rfl) (Nat.le_trans (Nat.le_of_ble_eq_true rfl) hd0) dX7_init_1 ?_
  refine j_aload_n 0 dX7_init_4 rfl rfl ?_
  refine j_bipush dX7_init_5 (by decide) ?_
  refine j_newai (j_r32 6 rfl) ac_i dX7_init_7 (fun (v1 : Int) (S2 : jSt) hv1 => ?_)
  refine j_dup dX7_init_9 (fun h => nomatch h) ?_
  refine j_iconst dX7_init_10 ?_
  refine j_iconst dX7_init_11 ?_
  refine j_iastore (jZ_R jz0) (j_r32 2 rfl) dX7_init_12 (fun S3 => ?_)
  refine j_dup dX7_init_13 (fun h => nomatch h) ?_
  refine j_iconst dX7_init_14 ?_
  refine j_iconst dX7_init_15 ?_
  refine j_iastore (jZ_R jz1) (j_r32 5 rfl) dX7_init_16 (fun S4 => ?_)
  refine j_dup dX7_init_17 (fun h => nomatch h) ?_
  refine j_iconst dX7_init_18 ?_
  refine j_bipush dX7_init_19 (by decide) ?_
  refine j_iastore (j_r32 2 rfl) (j_r32 10 rfl) dX7_init_21 (fun S5 => ?_)
  refine j_dup dX7_init_22 (fun h => nomatch h) ?_
  refine j_iconst dX7_init_23 ?_
  refine j_bipush dX7_init_24 (by decide) ?_
  refine j_iastore (j_r32 3 rfl) (j_r32 20 rfl) dX7_init_26 (fun S6 => ?_)
  refine j_dup dX7_init_27 (fun h => nomatch h) ?_
  refine j_iconst dX7_init_28 ?_
  refine j_bipush dX7_init_29 (by decide) ?_
  refine j_iastore (j_r32 4 rfl) (j_r32 40 rfl) dX7_init_31 (fun S7 => ?_)
  refine j_dup dX7_init_32 (fun h => nomatch h) ?_
  refine j_iconst dX7_init_33 ?_
  refine j_bipush dX7_init_34 (by decide) ?_
  refine j_iastore (j_r32 5 rfl) (j_r32 16 rfl) dX7_init_36 (fun S8 => ?_)
  refine j_putFr (ci := 7) (k := 0) (ty0 := tyX7) rfl in_X7 (Nat.le_of_ble_eq_true rfl) rfl tyX7_ok nmX7 rfl (Or.inr ⟨_, rfl⟩) rfl rfl rfl (by decide +kernel) hv1 fl_X7_9 dX7_init_37 (fun S9 => ?_)
  exact j_return dX7_init_40
theorem c_X7_init {G : jG} (a0 : Int) (S : jSt) (h0 : 0 ≤ (a0)) : CT G yX7_init cX7_init 1 none 1 ([(2, a0)].map jval) S (f_X7_init a0 S) := ct_of [(2, a0)] (by decide) rfl (Nat.le_of_ble_eq_true rfl) (e_X7_init (Nat.le_refl _) a0 S h0)
-- X10_init
def f_X10_init (a0 : Int) (S : jSt) : Option (Int × jSt) :=
  fnewa S 1 12 (fun v1 S2 => fput S2 a0 10 2 v1 (fun S3 => fnewa S3 1 12 (fun v4 S5 => fput S5 a0 10 3 v4 (fun S6 => fnewr S6 5 4 (fun v7 S8 => fput S8 a0 10 5 v7 (fun S9 => fput S9 a0 10 6 (-1) (fun S10 => fnewa S10 1 8 (fun v11 S12 => fput S12 a0 10 8 v11 (fun S13 => fnewa S13 1 8 (fun v14 S15 => fput S15 a0 10 9 v14 (fun S16 => fnewa S16 1 8 (fun v17 S18 => fput S18 a0 10 10 v17 (fun S19 => fnewa S19 1 8 (fun v20 S21 => fput S21 a0 10 12 v20 (fun S22 => fnewa S22 1 8 (fun v23 S24 => fput S24 a0 10 13 v23 (fun S25 => fnew S25 7 (fun v26 S27 => fcall (f_X7_init v26 S27) (fun v28 S29 => fput S29 a0 10 14 v26 (fun S30 => fnew S30 3 (fun v31 S32 => fcall (f_X3_init v31 S32) (fun v33 S34 => fput S34 a0 10 15 v31 (fun S35 => some (0, S35))))))))))))))))))))))))
theorem e_X10_init {G : jG} {d : Nat} {S0 : jSt} (hd0 : 2 ≤ d) (a0 : Int) (S : jSt) (h0 : 0 ≤ (a0)) : J G yX10_init cX10_init 1 none d S0 0 [(0, 2, a0)] [] S (f_X10_init a0 S) := by
  unfold f_X10_init
  refine j_aload_n 0 dX10_init_0 rfl rfl ?_
  refine j_objInit lo_X10_3 oi_i oi_c (Nat.le_of_ble_eq_true rfl) (Nat.le_trans (Nat.le_of_ble_eq_true rfl) hd0) dX10_init_1 ?_
  refine j_aload_n 0 dX10_init_4 rfl rfl ?_
  refine j_bipush dX10_init_5 (by decide) ?_
  refine j_newai (j_r32 12 rfl) ac_i dX10_init_7 (fun (v1 : Int) (S2 : jSt) hv1 => ?_)
  refine j_putFr (ci := 10) (k := 2) (ty0 := tyX10) rfl in_X10 (Nat.le_of_ble_eq_true rfl) rfl tyX10_ok nmX10 rfl (Or.inr ⟨_, rfl⟩) rfl rfl rfl (by decide +kernel) hv1 fl_X10_9 dX10_init_9 (fun S3 => ?_)
  refine j_aload_n 0 dX10_init_12 rfl rfl ?_
  refine j_bipush dX10_init_13 (by decide) ?_
  refine j_newai (j_r32 12 rfl) ac_i dX10_init_15 (fun (v4 : Int) (S5 : jSt) hv4 => ?_)
  refine j_putFr (ci := 10) (k := 3) (ty0 := tyX10) rfl in_X10 (Nat.le_of_ble_eq_true rfl) rfl tyX10_ok nmX10 rfl (Or.inr ⟨_, rfl⟩) rfl rfl rfl (by decide +kernel) hv4 fl_X10_15 dX10_init_17 (fun S6 => ?_)
  refine j_aload_n 0 dX10_init_20 rfl rfl ?_
  refine j_iconst dX10_init_21 ?_
  refine j_newr5 (j_r32 4 rfl) cl_X10_18 dX10_init_22 (fun (v7 : Int) (S8 : jSt) hv7 => ?_)
  refine j_putFr (ci := 10) (k := 5) (ty0 := tyX10) rfl in_X10 (Nat.le_of_ble_eq_true rfl) rfl tyX10_ok nmX10 rfl (Or.inr ⟨_, rfl⟩) rfl rfl rfl (by decide +kernel) hv7 fl_X10_20 dX10_init_25 (fun S9 => ?_)
  refine j_aload_n 0 dX10_init_28 rfl rfl ?_
  refine j_iconst dX10_init_29 ?_
  refine j_puti (ci := 10) (k := 6) (ty0 := tyX10) rfl in_X10 (Nat.le_of_ble_eq_true rfl) rfl tyX10_ok nmX10 rfl rfl (by decide +kernel) (j_r32 (-1) rfl) fl_X10_24 dX10_init_30 (fun S10 => ?_)
  refine j_aload_n 0 dX10_init_33 rfl rfl ?_
  refine j_bipush dX10_init_34 (by decide) ?_
  refine j_newai (j_r32 8 rfl) ac_i dX10_init_36 (fun (v11 : Int) (S12 : jSt) hv11 => ?_)
  refine j_putFr (ci := 10) (k := 8) (ty0 := tyX10) rfl in_X10 (Nat.le_of_ble_eq_true rfl) rfl tyX10_ok nmX10 rfl (Or.inr ⟨_, rfl⟩) rfl rfl rfl (by decide +kernel) hv11 fl_X10_28 dX10_init_38 (fun S13 => ?_)
  refine j_aload_n 0 dX10_init_41 rfl rfl ?_
  refine j_bipush dX10_init_42 (by decide) ?_
  refine j_newai (j_r32 8 rfl) ac_i dX10_init_44 (fun (v14 : Int) (S15 : jSt) hv14 => ?_)
  refine j_putFr (ci := 10) (k := 9) (ty0 := tyX10) rfl in_X10 (Nat.le_of_ble_eq_true rfl) rfl tyX10_ok nmX10 rfl (Or.inr ⟨_, rfl⟩) rfl rfl rfl (by decide +kernel) hv14 fl_X10_31 dX10_init_46 (fun S16 => ?_)
  refine j_aload_n 0 dX10_init_49 rfl rfl ?_
  refine j_bipush dX10_init_50 (by decide) ?_
  refine j_newai (j_r32 8 rfl) ac_i dX10_init_52 (fun (v17 : Int) (S18 : jSt) hv17 => ?_)
  refine j_putFr (ci := 10) (k := 10) (ty0 := tyX10) rfl in_X10 (Nat.le_of_ble_eq_true rfl) rfl tyX10_ok nmX10 rfl (Or.inr ⟨_, rfl⟩) rfl rfl rfl (by decide +kernel) hv17 fl_X10_34 dX10_init_54 (fun S19 => ?_)
  refine j_aload_n 0 dX10_init_57 rfl rfl ?_
  refine j_bipush dX10_init_58 (by decide) ?_
  refine j_newai (j_r32 8 rfl) ac_i dX10_init_60 (fun (v20 : Int) (S21 : jSt) hv20 => ?_)
  refine j_putFr (ci := 10) (k := 12) (ty0 := tyX10) rfl in_X10 (Nat.le_of_ble_eq_true rfl) rfl tyX10_ok nmX10 rfl (Or.inr ⟨_, rfl⟩) rfl rfl rfl (by decide +kernel) hv20 fl_X10_37 dX10_init_62 (fun S22 => ?_)
  refine j_aload_n 0 dX10_init_65 rfl rfl ?_
  refine j_bipush dX10_init_66 (by decide) ?_
  refine j_newai (j_r32 8 rfl) ac_i dX10_init_68 (fun (v23 : Int) (S24 : jSt) hv23 => ?_)
  refine j_putFr (ci := 10) (k := 13) (ty0 := tyX10) rfl in_X10 (Nat.le_of_ble_eq_true rfl) rfl tyX10_ok nmX10 rfl (Or.inr ⟨_, rfl⟩) rfl rfl rfl (by decide +kernel) hv23 fl_X10_40 dX10_init_70 (fun S25 => ?_)
  refine j_aload_n 0 dX10_init_73 rfl rfl ?_
  refine j_new (ci := 7) rfl in_X7 rfl tyX7_ok rfl pl_X7 cl_X10_43 is_X7 iz_X7 dX10_init_74 (fun (v26 : Int) (S27 : jSt) hv26 => ?_)
  refine j_dup dX10_init_77 (fun h => nomatch h) ?_
  refine j_callIN (As := []) (st := [(2, v26), (2, a0)]) (host := RX11) kc_X7_init (c_X7_init v26 S27 hv26) (by decide +kernel) ki_X7_init rfl rfl (Nat.le_of_ble_eq_true rfl) (Nat.le_trans (m := 2) (Nat.le_of_ble_eq_true rfl) hd0) dX10_init_78 (fun v28 S29 => ?_)
  refine j_putFr (ci := 10) (k := 14) (ty0 := tyX10) rfl in_X10 (Nat.le_of_ble_eq_true rfl) rfl tyX10_ok nmX10 rfl (Or.inl ⟨_, rfl⟩) rfl rfl rfl (by decide +kernel) hv26 fl_X10_46 dX10_init_81 (fun S30 => ?_)
  refine j_aload_n 0 dX10_init_84 rfl rfl ?_
  refine j_new (ci := 3) rfl in_X3 rfl tyX3_ok rfl pl_X3 cl_X10_50 is_X3 iz_X3 dX10_init_85 (fun (v31 : Int) (S32 : jSt) hv31 => ?_)
  refine j_dup dX10_init_88 (fun h => nomatch h) ?_
  refine j_callIN (As := []) (st := [(2, v31), (2, a0)]) (host := RX11) kc_X3_init (c_X3_init v31 S32 hv31) (by decide +kernel) ki_X3_init rfl rfl (Nat.le_of_ble_eq_true rfl) (Nat.le_trans (m := 2) (Nat.le_of_ble_eq_true rfl) hd0) dX10_init_89 (fun v33 S34 => ?_)
  refine j_putFr (ci := 10) (k := 15) (ty0 := tyX10) rfl in_X10 (Nat.le_of_ble_eq_true rfl) rfl tyX10_ok nmX10 rfl (Or.inl ⟨_, rfl⟩) rfl rfl rfl (by decide +kernel) hv31 fl_X10_53 dX10_init_92 (fun S35 => ?_)
  exact j_return dX10_init_95
theorem c_X10_init {G : jG} (a0 : Int) (S : jSt) (h0 : 0 ≤ (a0)) : CT G yX10_init cX10_init 1 none 2 ([(2, a0)].map jval) S (f_X10_init a0 S) := ct_of [(2, a0)] (by decide) rfl (Nat.le_of_ble_eq_true rfl) (e_X10_init (Nat.le_refl _) a0 S h0)
-- X11_about
def f_X11_about (a0 : Int) (a1 : Int) (S : jSt) : Option (Int × jSt) :=
  if a1 = 0 then fgetr S a0 11 0 (fun v1 => fget S v1 10 0 (fun v2 => some (v2, S))) else if a1 = 1 then fgetr S a0 11 0 (fun v3 => fget S v3 10 1 (fun v4 => some (v4, S))) else if a1 = 2 then fgetr S a0 11 0 (fun v5 => fget S v5 10 4 (fun v6 => some (v6, S))) else if a1 = 3 then fgetr S a0 11 0 (fun v7 => fget S v7 10 6 (fun v8 => some (v8, S))) else if a1 = 4 then fgetr S a0 11 2 (fun v9 => fget S v9 8 2 (fun v10 => some (v10, S))) else if a1 = 5 then fgetr S a0 11 0 (fun v11 => fget S v11 10 7 (fun v12 => some (v12, S))) else if a1 = 6 then fgetr S a0 11 0 (fun v13 => fget S v13 10 11 (fun v14 => some (v14, S))) else if a1 = 7 then fgetr S a0 11 6 (fun v15 => fget S v15 9 0 (fun v16 => some (v16, S))) else some ((-2), S)
theorem e_X11_about {G : jG} {d : Nat} {S0 : jSt} (hd0 : 1 ≤ d) (a0 : Int) (a1 : Int) (S : jSt) (h0 : 0 ≤ (a0)) (h1 : R32 (a1)) : J G yX11_about cX11_about 2 (some .int) d S0 0 [(0, 2, a0), (1, 0, a1)] [] S (f_X11_about a0 a1 S) := by
  unfold f_X11_about
  refine j_iload_n 1 dX11_about_0 rfl rfl ?_
  refine j_ite (fun hc0 => ?_) (fun hc0 => ?_)
  · refine j_tableIn (tgt := 48) (off := 47) h1 dX11_about_1 (by omega) (by omega) (by rw [hc0]; rfl) rfl ?_
    refine j_aload_n 0 dX11_about_48 rfl rfl ?_
    refine j_getr (ci := 11) (k := 0) rfl in_X11 (Nat.le_of_ble_eq_true rfl) rfl rfl fl_X11_10 dX11_about_49 (fun (v1 : Int) (hv1 : 0 ≤ v1) => ?_)
    refine j_get (ci := 10) (k := 0) (t := 0) rfl in_X10 (Nat.le_of_ble_eq_true rfl) rfl rfl fl_X11_80 dX11_about_52 (fun (v2 : Int) (hv2 : R32 (v2)) => ?_)
    exact j_ireturn hv2 dX11_about_55
  refine j_ite (fun hc1 => ?_) (fun hc1 => ?_)
  · refine j_tableIn (tgt := 56) (off := 55) h1 dX11_about_1 (by omega) (by omega) (by rw [hc1]; rfl) rfl ?_
    refine j_aload_n 0 dX11_about_56 rfl rfl ?_
    refine j_getr (ci := 11) (k := 0) rfl in_X11 (Nat.le_of_ble_eq_true rfl) rfl rfl fl_X11_10 dX11_about_57 (fun (v3 : Int) (hv3 : 0 ≤ v3) => ?_)
    refine j_get (ci := 10) (k := 1) (t := 0) rfl in_X10 (Nat.le_of_ble_eq_true rfl) rfl rfl fl_X11_98 dX11_about_60 (fun (v4 : Int) (hv4 : R32 (v4)) => ?_)
    exact j_ireturn hv4 dX11_about_63
  refine j_ite (fun hc2 => ?_) (fun hc2 => ?_)
  · refine j_tableIn (tgt := 64) (off := 63) h1 dX11_about_1 (by omega) (by omega) (by rw [hc2]; rfl) rfl ?_
    refine j_aload_n 0 dX11_about_64 rfl rfl ?_
    refine j_getr (ci := 11) (k := 0) rfl in_X11 (Nat.le_of_ble_eq_true rfl) rfl rfl fl_X11_10 dX11_about_65 (fun (v5 : Int) (hv5 : 0 ≤ v5) => ?_)
    refine j_get (ci := 10) (k := 4) (t := 0) rfl in_X10 (Nat.le_of_ble_eq_true rfl) rfl rfl fl_X11_131 dX11_about_68 (fun (v6 : Int) (hv6 : R32 (v6)) => ?_)
    exact j_ireturn hv6 dX11_about_71
  refine j_ite (fun hc3 => ?_) (fun hc3 => ?_)
  · refine j_tableIn (tgt := 72) (off := 71) h1 dX11_about_1 (by omega) (by omega) (by rw [hc3]; rfl) rfl ?_
    refine j_aload_n 0 dX11_about_72 rfl rfl ?_
    refine j_getr (ci := 11) (k := 0) rfl in_X11 (Nat.le_of_ble_eq_true rfl) rfl rfl fl_X11_10 dX11_about_73 (fun (v7 : Int) (hv7 : 0 ≤ v7) => ?_)
    refine j_get (ci := 10) (k := 6) (t := 0) rfl in_X10 (Nat.le_of_ble_eq_true rfl) rfl rfl fl_X11_155 dX11_about_76 (fun (v8 : Int) (hv8 : R32 (v8)) => ?_)
    exact j_ireturn hv8 dX11_about_79
  refine j_ite (fun hc4 => ?_) (fun hc4 => ?_)
  · refine j_tableIn (tgt := 80) (off := 79) h1 dX11_about_1 (by omega) (by omega) (by rw [hc4]; rfl) rfl ?_
    refine j_aload_n 0 dX11_about_80 rfl rfl ?_
    refine j_getr (ci := 11) (k := 2) rfl in_X11 (Nat.le_of_ble_eq_true rfl) rfl rfl fl_X11_26 dX11_about_81 (fun (v9 : Int) (hv9 : 0 ≤ v9) => ?_)
    refine j_get (ci := 8) (k := 2) (t := 0) rfl in_X8 (Nat.le_of_ble_eq_true rfl) rfl rfl fl_X11_223 dX11_about_84 (fun (v10 : Int) (hv10 : R32 (v10)) => ?_)
    exact j_ireturn hv10 dX11_about_87
  refine j_ite (fun hc5 => ?_) (fun hc5 => ?_)
  · refine j_tableIn (tgt := 88) (off := 87) h1 dX11_about_1 (by omega) (by omega) (by rw [hc5]; rfl) rfl ?_
    refine j_aload_n 0 dX11_about_88 rfl rfl ?_
    refine j_getr (ci := 11) (k := 0) rfl in_X11 (Nat.le_of_ble_eq_true rfl) rfl rfl fl_X11_10 dX11_about_89 (fun (v11 : Int) (hv11 : 0 ≤ v11) => ?_)
    refine j_get (ci := 10) (k := 7) (t := 0) rfl in_X10 (Nat.le_of_ble_eq_true rfl) rfl rfl fl_X11_314 dX11_about_92 (fun (v12 : Int) (hv12 : R32 (v12)) => ?_)
    exact j_ireturn hv12 dX11_about_95
  refine j_ite (fun hc6 => ?_) (fun hc6 => ?_)
  · refine j_tableIn (tgt := 96) (off := 95) h1 dX11_about_1 (by omega) (by omega) (by rw [hc6]; rfl) rfl ?_
    refine j_aload_n 0 dX11_about_96 rfl rfl ?_
    refine j_getr (ci := 11) (k := 0) rfl in_X11 (Nat.le_of_ble_eq_true rfl) rfl rfl fl_X11_10 dX11_about_97 (fun (v13 : Int) (hv13 : 0 ≤ v13) => ?_)
    refine j_get (ci := 10) (k := 11) (t := 0) rfl in_X10 (Nat.le_of_ble_eq_true rfl) rfl rfl fl_X11_404 dX11_about_100 (fun (v14 : Int) (hv14 : R32 (v14)) => ?_)
    exact j_ireturn hv14 dX11_about_103
  refine j_ite (fun hc7 => ?_) (fun hc7 => ?_)
  · refine j_tableIn (tgt := 104) (off := 103) h1 dX11_about_1 (by omega) (by omega) (by rw [hc7]; rfl) rfl ?_
    refine j_aload_n 0 dX11_about_104 rfl rfl ?_
    refine j_getr (ci := 11) (k := 6) rfl in_X11 (Nat.le_of_ble_eq_true rfl) rfl rfl fl_X11_42 dX11_about_105 (fun (v15 : Int) (hv15 : 0 ≤ v15) => ?_)
    refine j_get (ci := 9) (k := 0) (t := 0) rfl in_X9 (Nat.le_of_ble_eq_true rfl) rfl rfl fl_X11_124 dX11_about_108 (fun (v16 : Int) (hv16 : R32 (v16)) => ?_)
    exact j_ireturn hv16 dX11_about_111
  refine j_tableOut (tgt := 112) h1 dX11_about_1 (by omega) rfl ?_
  refine j_bipush dX11_about_112 (by decide) ?_
  exact j_ireturn (j_r32 (-2) rfl) dX11_about_114
theorem c_X11_about {G : jG} (a0 : Int) (a1 : Int) (S : jSt) (h0 : 0 ≤ (a0)) (h1 : R32 (a1)) : CT G yX11_about cX11_about 2 (some .int) 1 ([(2, a0), (0, a1)].map jval) S (f_X11_about a0 a1 S) := ct_of [(2, a0), (0, a1)] (by decide) rfl (Nat.le_of_ble_eq_true rfl) (e_X11_about (Nat.le_refl _) a0 a1 S h0 h1)
-- X11_ash
def f_X11_ash_b20 (S : jSt) : Option (Int × jSt) :=
  some ((-1), S)
theorem p_f_X11_ash_b20 {G : jG} {d : Nat} {S0 : jSt} (hd0 : 103 ≤ d) : ∀ (S : jSt), J G yX11_ash cX11_ash 3 (some .int) d S0 20 [] [] S (f_X11_ash_b20   S) := by
  intro S
  unfold f_X11_ash_b20
  refine j_iconst dX11_ash_20 ?_
  exact j_ireturn (j_r32 (-1) rfl) dX11_ash_21
def f_X11_ash (a0 : Int) (a1 : Int) (a2 : Int) (S : jSt) : Option (Int × jSt) :=
  fcall (f_X11_within a1 0 108 S) (fun v1 S2 => if v1 = 0 then f_X11_ash_b20 S2 else fcall (f_X11_within a2 0 12 S2) (fun v3 S4 => if v3 = 0 then f_X11_ash_b20 S4 else fgetr S4 a0 11 9 (fun v5 => fgetr S4 a0 11 1 (fun v6 => fcallv S4 v5 0 (f_X0_findAshes v5 v6 a1 a2 S4) (fun v7 S8 => fgetr S8 a0 11 9 (fun v9 => fget S8 v9 0 2 (fun v10 => some (v10, S8))))))))
theorem e_X11_ash {G : jG} {d : Nat} {S0 : jSt} (hd0 : 103 ≤ d) (a0 : Int) (a1 : Int) (a2 : Int) (S : jSt) (h0 : 0 ≤ (a0)) (h1 : R32 (a1)) (h2 : R32 (a2)) : J G yX11_ash cX11_ash 3 (some .int) d S0 0 [(0, 2, a0), (1, 0, a1), (2, 0, a2)] [] S (f_X11_ash a0 a1 a2 S) := by
  unfold f_X11_ash
  refine j_iload_n 1 dX11_ash_0 rfl rfl ?_
  refine j_iconst dX11_ash_1 ?_
  refine j_bipush dX11_ash_2 (by decide) ?_
  refine j_callS (As := [(0, a1), (0, 0), (0, 108)]) (st := []) kc_X11_within (c_X11_within a1 0 108 S h1 (jZ_R jz0) (j_r32 108 rfl)) lm_X11_76 ks_X11_within rfl (Nat.le_of_ble_eq_true rfl) (Nat.le_trans (m := 103) (Nat.le_of_ble_eq_true rfl) hd0) dX11_ash_4 (fun (v1 : Int) (S2 : jSt) (hv1 : (v1) = 0 ∨ (v1) = 1) => ?_)
  refine j_if_eq (tgt := 20) (jZ_R hv1) dX11_ash_7 rfl (fun _ => ?_) (fun _ => ?_)
  · refine j_sub [] rfl ?_
    exact p_f_X11_ash_b20 hd0 S2
  · refine j_iload_n 2 dX11_ash_10 rfl rfl ?_
    refine j_iconst dX11_ash_11 ?_
    refine j_bipush dX11_ash_12 (by decide) ?_
    refine j_callS (As := [(0, a2), (0, 0), (0, 12)]) (st := []) kc_X11_within (c_X11_within a2 0 12 S2 h2 (jZ_R jz0) (j_r32 12 rfl)) lm_X11_76 ks_X11_within rfl (Nat.le_of_ble_eq_true rfl) (Nat.le_trans (m := 103) (Nat.le_of_ble_eq_true rfl) hd0) dX11_ash_14 (fun (v3 : Int) (S4 : jSt) (hv3 : (v3) = 0 ∨ (v3) = 1) => ?_)
    refine j_if_ne (tgt := 22) (jZ_R hv3) dX11_ash_17 rfl (fun _ => ?_) (fun _ => ?_)
    · refine j_aload_n 0 dX11_ash_22 rfl rfl ?_
      refine j_getr (ci := 11) (k := 9) rfl in_X11 (Nat.le_of_ble_eq_true rfl) rfl rfl fl_X11_69 dX11_ash_23 (fun (v5 : Int) (hv5 : 0 ≤ v5) => ?_)
      refine j_aload_n 0 dX11_ash_26 rfl rfl ?_
      refine j_getr (ci := 11) (k := 1) rfl in_X11 (Nat.le_of_ble_eq_true rfl) rfl rfl fl_X11_19 dX11_ash_27 (fun (v6 : Int) (hv6 : 0 ≤ v6) => ?_)
      refine j_iload_n 1 dX11_ash_30 rfl rfl ?_
      refine j_iload_n 2 dX11_ash_31 rfl rfl ?_
      refine j_callV (ci := 0) (As := [(2, v6), (0, a1), (0, a2)]) (st := []) kc_X0_findAshes (c_X0_findAshes v5 v6 a1 a2 S4 hv5 hv6 h1 h2) rfl lm_X11_386 ki_X0_findAshes ke_X0_findAshes rfl (Nat.le_of_ble_eq_true rfl) (Nat.le_trans (m := 103) (Nat.le_of_ble_eq_true rfl) hd0) dX11_ash_32 (fun v7 S8 _ => ?_)
      refine j_aload_n 0 dX11_ash_35 rfl rfl ?_
      refine j_getr (ci := 11) (k := 9) rfl in_X11 (Nat.le_of_ble_eq_true rfl) rfl rfl fl_X11_69 dX11_ash_36 (fun (v9 : Int) (hv9 : 0 ≤ v9) => ?_)
      refine j_get (ci := 0) (k := 2) (t := 0) rfl in_X0 (Nat.le_of_ble_eq_true rfl) rfl rfl fl_X11_389 dX11_ash_39 (fun (v10 : Int) (hv10 : R32 (v10)) => ?_)
      exact j_ireturn hv10 dX11_ash_42
    · refine j_sub [] rfl ?_
      exact p_f_X11_ash_b20 hd0 S4
theorem c_X11_ash {G : jG} (a0 : Int) (a1 : Int) (a2 : Int) (S : jSt) (h0 : 0 ≤ (a0)) (h1 : R32 (a1)) (h2 : R32 (a2)) : CT G yX11_ash cX11_ash 3 (some .int) 103 ([(2, a0), (0, a1), (0, a2)].map jval) S (f_X11_ash a0 a1 a2 S) := ct_of [(2, a0), (0, a1), (0, a2)] (by decide) rfl (Nat.le_of_ble_eq_true rfl) (e_X11_ash (Nat.le_refl _) a0 a1 a2 S h0 h1 h2)
-- X1_copyFrom
def f_X1_copyFrom (a0 : Int) (a1 : Int) (S : jSt) : Option (Int × jSt) :=
  fgetr S a1 1 0 (fun v1 => fgetr S a0 1 0 (fun v2 => fgetr S a0 1 0 (fun v3 => flen S v3 1 (fun v4 => fcopy S v1 0 v2 0 v4 (fun S5 => fgetr S5 a1 1 1 (fun v6 => fgetr S5 a0 1 1 (fun v7 => fgetr S5 a0 1 1 (fun v8 => flen S5 v8 1 (fun v9 => fcopy S5 v6 0 v7 0 v9 (fun S10 => fgetr S10 a1 1 2 (fun v11 => fgetr S10 a0 1 2 (fun v12 => fgetr S10 a0 1 2 (fun v13 => flen S10 v13 1 (fun v14 => fcopy S10 v11 0 v12 0 v14 (fun S15 => fgetr S15 a1 1 3 (fun v16 => fgetr S15 a0 1 3 (fun v17 => fgetr S15 a0 1 3 (fun v18 => flen S15 v18 1 (fun v19 => fcopy S15 v16 0 v17 0 v19 (fun S20 => fgetr S20 a1 1 4 (fun v21 => fgetr S20 a0 1 4 (fun v22 => fgetr S20 a0 1 4 (fun v23 => flen S20 v23 1 (fun v24 => fcopy S20 v21 0 v22 0 v24 (fun S25 => fget S25 a1 1 5 (fun v26 => fput S25 a0 1 5 v26 (fun S27 => fget S27 a1 1 6 (fun v28 => fput S27 a0 1 6 v28 (fun S29 => fget S29 a1 1 7 (fun v30 => fput S29 a0 1 7 v30 (fun S31 => fget S31 a1 1 8 (fun v32 => fput S31 a0 1 8 v32 (fun S33 => some (0, S33))))))))))))))))))))))))))))))))))
theorem e_X1_copyFrom {G : jG} {d : Nat} {S0 : jSt} (hd0 : 1 ≤ d) (a0 : Int) (a1 : Int) (S : jSt) (h0 : 0 ≤ (a0)) (h1 : 0 ≤ (a1)) : J G yX1_copyFrom cX1_copyFrom 2 none d S0 0 [(0, 2, a0), (1, 2, a1)] [] S (f_X1_copyFrom a0 a1 S) := by
  unfold f_X1_copyFrom
  refine j_aload_n 1 dX1_copyFrom_0 rfl rfl ?_
  refine j_getr (ci := 1) (k := 0) rfl in_X1 (Nat.le_of_ble_eq_true rfl) rfl rfl fl_X1_9 dX1_copyFrom_1 (fun (v1 : Int) (hv1 : 0 ≤ v1) => ?_)
  refine j_iconst dX1_copyFrom_4 ?_
  refine j_aload_n 0 dX1_copyFrom_5 rfl rfl ?_
  refine j_getr (ci := 1) (k := 0) rfl in_X1 (Nat.le_of_ble_eq_true rfl) rfl rfl fl_X1_9 dX1_copyFrom_6 (fun (v2 : Int) (hv2 : 0 ≤ v2) => ?_)
  refine j_iconst dX1_copyFrom_9 ?_
  refine j_aload_n 0 dX1_copyFrom_10 rfl rfl ?_
  refine j_getr (ci := 1) (k := 0) rfl in_X1 (Nat.le_of_ble_eq_true rfl) rfl rfl fl_X1_9 dX1_copyFrom_11 (fun (v3 : Int) (hv3 : 0 ≤ v3) => ?_)
  refine j_alen dX1_copyFrom_14 (fun (v4 : Int) (hv4 : R32 v4) => ?_)
  refine j_copy (jZ_R jz0) (jZ_R jz0) hv4 la_X1_31 ay_n ay_s ay_i (Nat.le_of_ble_eq_true rfl) (Nat.le_trans (Nat.le_of_ble_eq_true rfl) hd0) dX1_copyFrom_15 (fun S5 => ?_)
  refine j_aload_n 1 dX1_copyFrom_18 rfl rfl ?_
  refine j_getr (ci := 1) (k := 1) rfl in_X1 (Nat.le_of_ble_eq_true rfl) rfl rfl fl_X1_15 dX1_copyFrom_19 (fun (v6 : Int) (hv6 : 0 ≤ v6) => ?_)
  refine j_iconst dX1_copyFrom_22 ?_
  refine j_aload_n 0 dX1_copyFrom_23 rfl rfl ?_
  refine j_getr (ci := 1) (k := 1) rfl in_X1 (Nat.le_of_ble_eq_true rfl) rfl rfl fl_X1_15 dX1_copyFrom_24 (fun (v7 : Int) (hv7 : 0 ≤ v7) => ?_)
  refine j_iconst dX1_copyFrom_27 ?_
  refine j_aload_n 0 dX1_copyFrom_28 rfl rfl ?_
  refine j_getr (ci := 1) (k := 1) rfl in_X1 (Nat.le_of_ble_eq_true rfl) rfl rfl fl_X1_15 dX1_copyFrom_29 (fun (v8 : Int) (hv8 : 0 ≤ v8) => ?_)
  refine j_alen dX1_copyFrom_32 (fun (v9 : Int) (hv9 : R32 v9) => ?_)
  refine j_copy (jZ_R jz0) (jZ_R jz0) hv9 la_X1_31 ay_n ay_s ay_i (Nat.le_of_ble_eq_true rfl) (Nat.le_trans (Nat.le_of_ble_eq_true rfl) hd0) dX1_copyFrom_33 (fun S10 => ?_)
  refine j_aload_n 1 dX1_copyFrom_36 rfl rfl ?_
  refine j_getr (ci := 1) (k := 2) rfl in_X1 (Nat.le_of_ble_eq_true rfl) rfl rfl fl_X1_18 dX1_copyFrom_37 (fun (v11 : Int) (hv11 : 0 ≤ v11) => ?_)
  refine j_iconst dX1_copyFrom_40 ?_
  refine j_aload_n 0 dX1_copyFrom_41 rfl rfl ?_
  refine j_getr (ci := 1) (k := 2) rfl in_X1 (Nat.le_of_ble_eq_true rfl) rfl rfl fl_X1_18 dX1_copyFrom_42 (fun (v12 : Int) (hv12 : 0 ≤ v12) => ?_)
  refine j_iconst dX1_copyFrom_45 ?_
  refine j_aload_n 0 dX1_copyFrom_46 rfl rfl ?_
  refine j_getr (ci := 1) (k := 2) rfl in_X1 (Nat.le_of_ble_eq_true rfl) rfl rfl fl_X1_18 dX1_copyFrom_47 (fun (v13 : Int) (hv13 : 0 ≤ v13) => ?_)
  refine j_alen dX1_copyFrom_50 (fun (v14 : Int) (hv14 : R32 v14) => ?_)
  refine j_copy (jZ_R jz0) (jZ_R jz0) hv14 la_X1_31 ay_n ay_s ay_i (Nat.le_of_ble_eq_true rfl) (Nat.le_trans (Nat.le_of_ble_eq_true rfl) hd0) dX1_copyFrom_51 (fun S15 => ?_)
  refine j_aload_n 1 dX1_copyFrom_54 rfl rfl ?_
  refine j_getr (ci := 1) (k := 3) rfl in_X1 (Nat.le_of_ble_eq_true rfl) rfl rfl fl_X1_21 dX1_copyFrom_55 (fun (v16 : Int) (hv16 : 0 ≤ v16) => ?_)
  refine j_iconst dX1_copyFrom_58 ?_
  refine j_aload_n 0 dX1_copyFrom_59 rfl rfl ?_
  refine j_getr (ci := 1) (k := 3) rfl in_X1 (Nat.le_of_ble_eq_true rfl) rfl rfl fl_X1_21 dX1_copyFrom_60 (fun (v17 : Int) (hv17 : 0 ≤ v17) => ?_)
  refine j_iconst dX1_copyFrom_63 ?_
  refine j_aload_n 0 dX1_copyFrom_64 rfl rfl ?_
  refine j_getr (ci := 1) (k := 3) rfl in_X1 (Nat.le_of_ble_eq_true rfl) rfl rfl fl_X1_21 dX1_copyFrom_65 (fun (v18 : Int) (hv18 : 0 ≤ v18) => ?_)
  refine j_alen dX1_copyFrom_68 (fun (v19 : Int) (hv19 : R32 v19) => ?_)
  refine j_copy (jZ_R jz0) (jZ_R jz0) hv19 la_X1_31 ay_n ay_s ay_i (Nat.le_of_ble_eq_true rfl) (Nat.le_trans (Nat.le_of_ble_eq_true rfl) hd0) dX1_copyFrom_69 (fun S20 => ?_)
  refine j_aload_n 1 dX1_copyFrom_72 rfl rfl ?_
  refine j_getr (ci := 1) (k := 4) rfl in_X1 (Nat.le_of_ble_eq_true rfl) rfl rfl fl_X1_24 dX1_copyFrom_73 (fun (v21 : Int) (hv21 : 0 ≤ v21) => ?_)
  refine j_iconst dX1_copyFrom_76 ?_
  refine j_aload_n 0 dX1_copyFrom_77 rfl rfl ?_
  refine j_getr (ci := 1) (k := 4) rfl in_X1 (Nat.le_of_ble_eq_true rfl) rfl rfl fl_X1_24 dX1_copyFrom_78 (fun (v22 : Int) (hv22 : 0 ≤ v22) => ?_)
  refine j_iconst dX1_copyFrom_81 ?_
  refine j_aload_n 0 dX1_copyFrom_82 rfl rfl ?_
  refine j_getr (ci := 1) (k := 4) rfl in_X1 (Nat.le_of_ble_eq_true rfl) rfl rfl fl_X1_24 dX1_copyFrom_83 (fun (v23 : Int) (hv23 : 0 ≤ v23) => ?_)
  refine j_alen dX1_copyFrom_86 (fun (v24 : Int) (hv24 : R32 v24) => ?_)
  refine j_copy (jZ_R jz0) (jZ_R jz0) hv24 la_X1_31 ay_n ay_s ay_i (Nat.le_of_ble_eq_true rfl) (Nat.le_trans (Nat.le_of_ble_eq_true rfl) hd0) dX1_copyFrom_87 (fun S25 => ?_)
  refine j_aload_n 0 dX1_copyFrom_90 rfl rfl ?_
  refine j_aload_n 1 dX1_copyFrom_91 rfl rfl ?_
  refine j_get (ci := 1) (k := 5) (t := 0) rfl in_X1 (Nat.le_of_ble_eq_true rfl) rfl rfl fl_X1_37 dX1_copyFrom_92 (fun (v26 : Int) (hv26 : R32 (v26)) => ?_)
  refine j_puti (ci := 1) (k := 5) (ty0 := tyX1) rfl in_X1 (Nat.le_of_ble_eq_true rfl) rfl tyX1_ok nmX1 rfl rfl (by decide +kernel) hv26 fl_X1_37 dX1_copyFrom_95 (fun S27 => ?_)
  refine j_aload_n 0 dX1_copyFrom_98 rfl rfl ?_
  refine j_aload_n 1 dX1_copyFrom_99 rfl rfl ?_
  refine j_get (ci := 1) (k := 6) (t := 0) rfl in_X1 (Nat.le_of_ble_eq_true rfl) rfl rfl fl_X1_40 dX1_copyFrom_100 (fun (v28 : Int) (hv28 : R32 (v28)) => ?_)
  refine j_puti (ci := 1) (k := 6) (ty0 := tyX1) rfl in_X1 (Nat.le_of_ble_eq_true rfl) rfl tyX1_ok nmX1 rfl rfl (by decide +kernel) hv28 fl_X1_40 dX1_copyFrom_103 (fun S29 => ?_)
  refine j_aload_n 0 dX1_copyFrom_106 rfl rfl ?_
  refine j_aload_n 1 dX1_copyFrom_107 rfl rfl ?_
  refine j_get (ci := 1) (k := 7) (t := 0) rfl in_X1 (Nat.le_of_ble_eq_true rfl) rfl rfl fl_X1_43 dX1_copyFrom_108 (fun (v30 : Int) (hv30 : R32 (v30)) => ?_)
  refine j_puti (ci := 1) (k := 7) (ty0 := tyX1) rfl in_X1 (Nat.le_of_ble_eq_true rfl) rfl tyX1_ok nmX1 rfl rfl (by decide +kernel) hv30 fl_X1_43 dX1_copyFrom_111 (fun S31 => ?_)
  refine j_aload_n 0 dX1_copyFrom_114 rfl rfl ?_
  refine j_aload_n 1 dX1_copyFrom_115 rfl rfl ?_
  refine j_get (ci := 1) (k := 8) (t := 0) rfl in_X1 (Nat.le_of_ble_eq_true rfl) rfl rfl fl_X1_27 dX1_copyFrom_116 (fun (v32 : Int) (hv32 : R32 (v32)) => ?_)
  refine j_puti (ci := 1) (k := 8) (ty0 := tyX1) rfl in_X1 (Nat.le_of_ble_eq_true rfl) rfl tyX1_ok nmX1 rfl rfl (by decide +kernel) hv32 fl_X1_27 dX1_copyFrom_119 (fun S33 => ?_)
  exact j_return dX1_copyFrom_122
theorem c_X1_copyFrom {G : jG} (a0 : Int) (a1 : Int) (S : jSt) (h0 : 0 ≤ (a0)) (h1 : 0 ≤ (a1)) : CT G yX1_copyFrom cX1_copyFrom 2 none 1 ([(2, a0), (2, a1)].map jval) S (f_X1_copyFrom a0 a1 S) := ct_of [(2, a0), (2, a1)] (by decide) rfl (Nat.le_of_ble_eq_true rfl) (e_X1_copyFrom (Nat.le_refl _) a0 a1 S h0 h1)
-- X8_copyFrom
def f_X8_copyFrom_b18B (r18 : Int → Int → Int → jSt → Option (Int × jSt)) (x0 : Int) (x1 : Int) (x2 : Int) (S : jSt) : Option (Int × jSt) :=
  fget S x0 8 2 (fun v5 => if v5 ≤ x2 then some (0, S) else fget S x0 8 1 (fun v6 => if 30 = 0 then none else flet (irem32 (w32 (v6 + x2)) 30) (fun v7 => fgetr S x0 8 0 (fun v8 => fald S v8 v7 4 (fun v9 => if 0 ≤ v9 then fgetr S x1 8 0 (fun v10 => fald S v10 v7 4 (fun v11 => if 0 ≤ v11 then fcallv S v9 1 (f_X1_copyFrom v9 v11 S) (fun v12 S13 => flet (w32 (x2 + 1)) (fun v14 => r18 x0 x1 v14 S13)) else none)) else none)))))
theorem p_f_X8_copyFrom_b18B {G : jG} {d : Nat} {S0 : jSt} (hd0 : 2 ≤ d) {r18 : Int → Int → Int → jSt → Option (Int × jSt)} (k18 : ∀ (x0 : Int) (x1 : Int) (x2 : Int) (S : jSt), (0 ≤ (x0)) → (0 ≤ (x1)) → (R32 (x2)) → J G yX8_copyFrom cX8_copyFrom 4 none d S0 18 [(0, 2, x0), (1, 2, x1), (2, 0, x2)] [] S (r18 x0 x1 x2 S)) : ∀ (x0 : Int) (x1 : Int) (x2 : Int) (S : jSt), (0 ≤ (x0)) → (0 ≤ (x1)) → (R32 (x2)) → J G yX8_copyFrom cX8_copyFrom 4 none d S0 18 [(0, 2, x0), (1, 2, x1), (2, 0, x2)] [] S (f_X8_copyFrom_b18B r18 x0 x1 x2 S) := by
  intro x0 x1 x2 S h0 h1 h2
  unfold f_X8_copyFrom_b18B
  refine j_iload_n 2 dX8_copyFrom_18 rfl rfl ?_
  refine j_aload_n 0 dX8_copyFrom_19 rfl rfl ?_
  refine j_get (ci := 8) (k := 2) (t := 0) rfl in_X8 (Nat.le_of_ble_eq_true rfl) rfl rfl fl_X8_22 dX8_copyFrom_20 (fun (v5 : Int) (hv5 : R32 (v5)) => ?_)
  refine j_icmp_ge (tgt := 57) h2 hv5 dX8_copyFrom_23 rfl (fun _ => ?_) (fun _ => ?_)
  · exact j_return dX8_copyFrom_57
  · refine j_aload_n 0 dX8_copyFrom_26 rfl rfl ?_
    refine j_get (ci := 8) (k := 1) (t := 0) rfl in_X8 (Nat.le_of_ble_eq_true rfl) rfl rfl fl_X8_18 dX8_copyFrom_27 (fun (v6 : Int) (hv6 : R32 (v6)) => ?_)
    refine j_iload_n 2 dX8_copyFrom_30 rfl rfl ?_
    refine j_iadd dX8_copyFrom_31 ?_
    refine j_bipush dX8_copyFrom_32 (by decide) ?_
    refine j_irem (j_r32 30 rfl) dX8_copyFrom_34 ?_
    refine j_leti (irem32_R _ _) (fun v7 hv7 => ?_)
    refine j_istore_n (lv' := [(3, 0, v7), (0, 2, x0), (1, 2, x1), (2, 0, x2)]) dX8_copyFrom_35 rfl (Nat.le_of_ble_eq_true rfl) rfl ?_
    refine j_aload_n 1 dX8_copyFrom_36 rfl rfl ?_
    refine j_getr (ci := 8) (k := 0) rfl in_X8 (Nat.le_of_ble_eq_true rfl) rfl rfl fl_X8_11 dX8_copyFrom_37 (fun (v8 : Int) (hv8 : 0 ≤ v8) => ?_)
    refine j_iload_n 0 dX8_copyFrom_40 rfl rfl ?_
    refine j_aaload4 hv7 dX8_copyFrom_41 (fun v9 => ?_)
    refine j_cast (z := v9) (st' := [(2, v9)]) (fun h => by simp only [List.map_cons, jpush, jtag, jval3r h]) (fun hq41 => ?_)
    refine j_aload_n 2 dX8_copyFrom_42 rfl rfl ?_
    refine j_getr (ci := 8) (k := 0) rfl in_X8 (Nat.le_of_ble_eq_true rfl) rfl rfl fl_X8_11 dX8_copyFrom_43 (fun (v10 : Int) (hv10 : 0 ≤ v10) => ?_)
    refine j_iload_n 0 dX8_copyFrom_46 rfl rfl ?_
    refine j_aaload4 hv7 dX8_copyFrom_47 (fun v11 => ?_)
    refine j_cast (z := v11) (st' := [(2, v11), (2, v9)]) (fun h => by simp only [List.map_cons, jpush, jtag, jval3r h]) (fun hq47 => ?_)
    refine j_callV (ci := 1) (As := [(2, v11)]) (st := []) kc_X1_copyFrom (c_X1_copyFrom v9 v11 S hq41 hq47) rfl lm_X8_25 ki_X1_copyFrom ke_X1_copyFrom rfl (Nat.le_of_ble_eq_true rfl) (Nat.le_trans (m := 2) (Nat.le_of_ble_eq_true rfl) hd0) dX8_copyFrom_48 (fun v12 S13 _ => ?_)
    refine j_iincL (q := 3) dX8_copyFrom_51 rfl (Nat.le_of_ble_eq_true rfl) (fun v14 hv14 => ?_)
    refine j_lv (lv' := [(2, 0, v14), (3, 0, v7), (0, 2, x0), (1, 2, x1)]) rfl ?_
    refine j_goto (tgt := 18) dX8_copyFrom_54 rfl ?_
    refine j_sub [2, 3, 0] rfl ?_
    exact k18 x0 x1 v14 S13 h0 h1 hv14
def f_X8_copyFrom_b18 : Int → Int → Int → jSt → Option (Int × jSt) := jrep (β := Int → Int → Int → jSt → Option (Int × jSt)) (fun _ _ _ _ => none) (fun r => f_X8_copyFrom_b18B r) jN
theorem p_f_X8_copyFrom_b18 {G : jG} {d : Nat} {S0 : jSt} (hd0 : 2 ≤ d) : ∀ (x0 : Int) (x1 : Int) (x2 : Int) (S : jSt), (0 ≤ (x0)) → (0 ≤ (x1)) → (R32 (x2)) → J G yX8_copyFrom cX8_copyFrom 4 none d S0 18 [(0, 2, x0), (1, 2, x1), (2, 0, x2)] [] S (f_X8_copyFrom_b18  x0 x1 x2 S) :=
  jrep_ind (P := fun (r : Int → Int → Int → jSt → Option (Int × jSt)) => ∀ (x0 : Int) (x1 : Int) (x2 : Int) (S : jSt), (0 ≤ (x0)) → (0 ≤ (x1)) → (R32 (x2)) → J G yX8_copyFrom cX8_copyFrom 4 none d S0 18 [(0, 2, x0), (1, 2, x1), (2, 0, x2)] [] S (r x0 x1 x2 S)) (by intros; exact j_none) (fun r k => p_f_X8_copyFrom_b18B hd0 k) jN
def f_X8_copyFrom (a0 : Int) (a1 : Int) (S : jSt) : Option (Int × jSt) :=
  fget S a1 8 1 (fun v1 => fput S a0 8 1 v1 (fun S2 => fget S2 a1 8 2 (fun v3 => fput S2 a0 8 2 v3 (fun S4 => f_X8_copyFrom_b18 a0 a1 0 S4))))
theorem e_X8_copyFrom {G : jG} {d : Nat} {S0 : jSt} (hd0 : 2 ≤ d) (a0 : Int) (a1 : Int) (S : jSt) (h0 : 0 ≤ (a0)) (h1 : 0 ≤ (a1)) : J G yX8_copyFrom cX8_copyFrom 4 none d S0 0 [(0, 2, a0), (1, 2, a1)] [] S (f_X8_copyFrom a0 a1 S) := by
  unfold f_X8_copyFrom
  refine j_aload_n 0 dX8_copyFrom_0 rfl rfl ?_
  refine j_aload_n 1 dX8_copyFrom_1 rfl rfl ?_
  refine j_get (ci := 8) (k := 1) (t := 0) rfl in_X8 (Nat.le_of_ble_eq_true rfl) rfl rfl fl_X8_18 dX8_copyFrom_2 (fun (v1 : Int) (hv1 : R32 (v1)) => ?_)
  refine j_puti (ci := 8) (k := 1) (ty0 := tyX8) rfl in_X8 (Nat.le_of_ble_eq_true rfl) rfl tyX8_ok nmX8 rfl rfl (by decide +kernel) hv1 fl_X8_18 dX8_copyFrom_5 (fun S2 => ?_)
  refine j_aload_n 0 dX8_copyFrom_8 rfl rfl ?_
  refine j_aload_n 1 dX8_copyFrom_9 rfl rfl ?_
  refine j_get (ci := 8) (k := 2) (t := 0) rfl in_X8 (Nat.le_of_ble_eq_true rfl) rfl rfl fl_X8_22 dX8_copyFrom_10 (fun (v3 : Int) (hv3 : R32 (v3)) => ?_)
  refine j_puti (ci := 8) (k := 2) (ty0 := tyX8) rfl in_X8 (Nat.le_of_ble_eq_true rfl) rfl tyX8_ok nmX8 rfl rfl (by decide +kernel) hv3 fl_X8_22 dX8_copyFrom_13 (fun S4 => ?_)
  refine j_iconst dX8_copyFrom_16 ?_
  refine j_istore_n (lv' := [(2, 0, 0), (0, 2, a0), (1, 2, a1)]) dX8_copyFrom_17 rfl (Nat.le_of_ble_eq_true rfl) rfl ?_
  refine j_sub [1, 2, 0] rfl ?_
  exact p_f_X8_copyFrom_b18 hd0 a0 a1 0 S4 h0 h1 (jZ_R jz0)
theorem c_X8_copyFrom {G : jG} (a0 : Int) (a1 : Int) (S : jSt) (h0 : 0 ≤ (a0)) (h1 : 0 ≤ (a1)) : CT G yX8_copyFrom cX8_copyFrom 4 none 2 ([(2, a0), (2, a1)].map jval) S (f_X8_copyFrom a0 a1 S) := ct_of [(2, a0), (2, a1)] (by decide) rfl (Nat.le_of_ble_eq_true rfl) (e_X8_copyFrom (Nat.le_refl _) a0 a1 S h0 h1)
-- X11_back
def f_X11_back (a0 : Int) (S : jSt) : Option (Int × jSt) :=
  fgetr S a0 11 0 (fun v1 => fgetr S a0 11 3 (fun v2 => fcallv S v1 10 (f_X10_copyFrom v1 v2 S) (fun v3 S4 => fgetr S4 a0 11 1 (fun v5 => fgetr S4 a0 11 4 (fun v6 => fcallv S4 v5 1 (f_X1_copyFrom v5 v6 S4) (fun v7 S8 => fgetr S8 a0 11 2 (fun v9 => fgetr S8 a0 11 5 (fun v10 => fcallv S8 v9 8 (f_X8_copyFrom v9 v10 S8) (fun v11 S12 => fgetr S12 a0 11 1 (fun v13 => fget S12 v13 1 7 (fun v14 => some (v14, S12))))))))))))
theorem e_X11_back {G : jG} {d : Nat} {S0 : jSt} (hd0 : 3 ≤ d) (a0 : Int) (S : jSt) (h0 : 0 ≤ (a0)) : J G yX11_back cX11_back 1 (some .int) d S0 0 [(0, 2, a0)] [] S (f_X11_back a0 S) := by
  unfold f_X11_back
  refine j_aload_n 0 dX11_back_0 rfl rfl ?_
  refine j_getr (ci := 11) (k := 0) rfl in_X11 (Nat.le_of_ble_eq_true rfl) rfl rfl fl_X11_10 dX11_back_1 (fun (v1 : Int) (hv1 : 0 ≤ v1) => ?_)
  refine j_aload_n 0 dX11_back_4 rfl rfl ?_
  refine j_getr (ci := 11) (k := 3) rfl in_X11 (Nat.le_of_ble_eq_true rfl) rfl rfl fl_X11_30 dX11_back_5 (fun (v2 : Int) (hv2 : 0 ≤ v2) => ?_)
  refine j_callV (ci := 10) (As := [(2, v2)]) (st := []) kc_X10_copyFrom (c_X10_copyFrom v1 v2 S hv1 hv2) rfl lm_X11_417 ki_X10_copyFrom ke_X10_copyFrom rfl (Nat.le_of_ble_eq_true rfl) (Nat.le_trans (m := 3) (Nat.le_of_ble_eq_true rfl) hd0) dX11_back_8 (fun v3 S4 _ => ?_)
  refine j_aload_n 0 dX11_back_11 rfl rfl ?_
  refine j_getr (ci := 11) (k := 1) rfl in_X11 (Nat.le_of_ble_eq_true rfl) rfl rfl fl_X11_19 dX11_back_12 (fun (v5 : Int) (hv5 : 0 ≤ v5) => ?_)
  refine j_aload_n 0 dX11_back_15 rfl rfl ?_
  refine j_getr (ci := 11) (k := 4) rfl in_X11 (Nat.le_of_ble_eq_true rfl) rfl rfl fl_X11_33 dX11_back_16 (fun (v6 : Int) (hv6 : 0 ≤ v6) => ?_)
  refine j_callV (ci := 1) (As := [(2, v6)]) (st := []) kc_X1_copyFrom (c_X1_copyFrom v5 v6 S4 hv5 hv6) rfl lm_X11_294 ki_X1_copyFrom ke_X1_copyFrom rfl (Nat.le_of_ble_eq_true rfl) (Nat.le_trans (m := 3) (Nat.le_of_ble_eq_true rfl) hd0) dX11_back_19 (fun v7 S8 _ => ?_)
  refine j_aload_n 0 dX11_back_22 rfl rfl ?_
  refine j_getr (ci := 11) (k := 2) rfl in_X11 (Nat.le_of_ble_eq_true rfl) rfl rfl fl_X11_26 dX11_back_23 (fun (v9 : Int) (hv9 : 0 ≤ v9) => ?_)
  refine j_aload_n 0 dX11_back_26 rfl rfl ?_
  refine j_getr (ci := 11) (k := 5) rfl in_X11 (Nat.le_of_ble_eq_true rfl) rfl rfl fl_X11_36 dX11_back_27 (fun (v10 : Int) (hv10 : 0 ≤ v10) => ?_)
  refine j_callV (ci := 8) (As := [(2, v10)]) (st := []) kc_X8_copyFrom (c_X8_copyFrom v9 v10 S8 hv9 hv10) rfl lm_X11_419 ki_X8_copyFrom ke_X8_copyFrom rfl (Nat.le_of_ble_eq_true rfl) (Nat.le_trans (m := 3) (Nat.le_of_ble_eq_true rfl) hd0) dX11_back_30 (fun v11 S12 _ => ?_)
  refine j_aload_n 0 dX11_back_33 rfl rfl ?_
  refine j_getr (ci := 11) (k := 1) rfl in_X11 (Nat.le_of_ble_eq_true rfl) rfl rfl fl_X11_19 dX11_back_34 (fun (v13 : Int) (hv13 : 0 ≤ v13) => ?_)
  refine j_get (ci := 1) (k := 7) (t := 0) rfl in_X1 (Nat.le_of_ble_eq_true rfl) rfl rfl fl_X11_193 dX11_back_37 (fun (v14 : Int) (hv14 : R32 (v14)) => ?_)
  exact j_ireturn hv14 dX11_back_40
theorem c_X11_back {G : jG} (a0 : Int) (S : jSt) (h0 : 0 ≤ (a0)) : CT G yX11_back cX11_back 1 (some .int) 3 ([(2, a0)].map jval) S (f_X11_back a0 S) := ct_of [(2, a0)] (by decide) rfl (Nat.le_of_ble_eq_true rfl) (e_X11_back (Nat.le_refl _) a0 S h0)
-- X8_tellPurse
def f_X8_tellPurse_b2B (r2 : Int → Int → Int → Int → jSt → Option (Int × jSt)) (x0 : Int) (x1 : Int) (x2 : Int) (x3 : Int) (S : jSt) : Option (Int × jSt) :=
  if 30 ≤ x3 then some (0, S) else fgetr S x0 8 0 (fun v1 => fald S v1 x3 4 (fun v2 => if 0 ≤ v2 then fgetr S v2 1 2 (fun v3 => fast S v3 x1 1 x2 (fun S4 => flet (w32 (x3 + 1)) (fun v5 => r2 x0 x1 x2 v5 S4))) else none))
theorem p_f_X8_tellPurse_b2B {G : jG} {d : Nat} {S0 : jSt} (hd0 : 1 ≤ d) {r2 : Int → Int → Int → Int → jSt → Option (Int × jSt)} (k2 : ∀ (x0 : Int) (x1 : Int) (x2 : Int) (x3 : Int) (S : jSt), (0 ≤ (x0)) → (R32 (x1)) → (R32 (x2)) → (R32 (x3)) → J G yX8_tellPurse cX8_tellPurse 4 none d S0 2 [(0, 2, x0), (1, 0, x1), (2, 0, x2), (3, 0, x3)] [] S (r2 x0 x1 x2 x3 S)) : ∀ (x0 : Int) (x1 : Int) (x2 : Int) (x3 : Int) (S : jSt), (0 ≤ (x0)) → (R32 (x1)) → (R32 (x2)) → (R32 (x3)) → J G yX8_tellPurse cX8_tellPurse 4 none d S0 2 [(0, 2, x0), (1, 0, x1), (2, 0, x2), (3, 0, x3)] [] S (f_X8_tellPurse_b2B r2 x0 x1 x2 x3 S) := by
  intro x0 x1 x2 x3 S h0 h1 h2 h3
  unfold f_X8_tellPurse_b2B
  refine j_iload_n 3 dX8_tellPurse_2 rfl rfl ?_
  refine j_bipush dX8_tellPurse_3 (by decide) ?_
  refine j_icmp_ge (tgt := 26) h3 (j_r32 30 rfl) dX8_tellPurse_5 rfl (fun _ => ?_) (fun _ => ?_)
  · exact j_return dX8_tellPurse_26
  · refine j_aload_n 0 dX8_tellPurse_8 rfl rfl ?_
    refine j_getr (ci := 8) (k := 0) rfl in_X8 (Nat.le_of_ble_eq_true rfl) rfl rfl fl_X8_11 dX8_tellPurse_9 (fun (v1 : Int) (hv1 : 0 ≤ v1) => ?_)
    refine j_iload_n 3 dX8_tellPurse_12 rfl rfl ?_
    refine j_aaload4 h3 dX8_tellPurse_13 (fun v2 => ?_)
    refine j_cast (z := v2) (st' := [(2, v2)]) (fun h => by simp only [List.map_cons, jpush, jtag, jval3r h]) (fun hq13 => ?_)
    refine j_getr (ci := 1) (k := 2) rfl in_X1 (Nat.le_of_ble_eq_true rfl) rfl rfl fl_X8_33 dX8_tellPurse_14 (fun (v3 : Int) (hv3 : 0 ≤ v3) => ?_)
    refine j_iload_n 1 dX8_tellPurse_17 rfl rfl ?_
    refine j_iload_n 2 dX8_tellPurse_18 rfl rfl ?_
    refine j_iastore h1 h2 dX8_tellPurse_19 (fun S4 => ?_)
    refine j_iincL (q := 3) dX8_tellPurse_20 rfl (Nat.le_of_ble_eq_true rfl) (fun v5 hv5 => ?_)
    refine j_lv (lv' := [(3, 0, v5), (0, 2, x0), (1, 0, x1), (2, 0, x2)]) rfl ?_
    refine j_goto (tgt := 2) dX8_tellPurse_23 rfl ?_
    refine j_sub [1, 2, 3, 0] rfl ?_
    exact k2 x0 x1 x2 v5 S4 h0 h1 h2 hv5
def f_X8_tellPurse_b2 : Int → Int → Int → Int → jSt → Option (Int × jSt) := jrep (β := Int → Int → Int → Int → jSt → Option (Int × jSt)) (fun _ _ _ _ _ => none) (fun r => f_X8_tellPurse_b2B r) jN
theorem p_f_X8_tellPurse_b2 {G : jG} {d : Nat} {S0 : jSt} (hd0 : 1 ≤ d) : ∀ (x0 : Int) (x1 : Int) (x2 : Int) (x3 : Int) (S : jSt), (0 ≤ (x0)) → (R32 (x1)) → (R32 (x2)) → (R32 (x3)) → J G yX8_tellPurse cX8_tellPurse 4 none d S0 2 [(0, 2, x0), (1, 0, x1), (2, 0, x2), (3, 0, x3)] [] S (f_X8_tellPurse_b2  x0 x1 x2 x3 S) :=
  jrep_ind (P := fun (r : Int → Int → Int → Int → jSt → Option (Int × jSt)) => ∀ (x0 : Int) (x1 : Int) (x2 : Int) (x3 : Int) (S : jSt), (0 ≤ (x0)) → (R32 (x1)) → (R32 (x2)) → (R32 (x3)) → J G yX8_tellPurse cX8_tellPurse 4 none d S0 2 [(0, 2, x0), (1, 0, x1), (2, 0, x2), (3, 0, x3)] [] S (r x0 x1 x2 x3 S)) (by intros; exact j_none) (fun r k => p_f_X8_tellPurse_b2B hd0 k) jN
def f_X8_tellPurse (a0 : Int) (a1 : Int) (a2 : Int) (S : jSt) : Option (Int × jSt) :=
  f_X8_tellPurse_b2 a0 a1 a2 0 S
theorem e_X8_tellPurse {G : jG} {d : Nat} {S0 : jSt} (hd0 : 1 ≤ d) (a0 : Int) (a1 : Int) (a2 : Int) (S : jSt) (h0 : 0 ≤ (a0)) (h1 : R32 (a1)) (h2 : R32 (a2)) : J G yX8_tellPurse cX8_tellPurse 4 none d S0 0 [(0, 2, a0), (1, 0, a1), (2, 0, a2)] [] S (f_X8_tellPurse a0 a1 a2 S) := by
  unfold f_X8_tellPurse
  refine j_iconst dX8_tellPurse_0 ?_
  refine j_istore_n (lv' := [(3, 0, 0), (0, 2, a0), (1, 0, a1), (2, 0, a2)]) dX8_tellPurse_1 rfl (Nat.le_of_ble_eq_true rfl) rfl ?_
  refine j_sub [1, 2, 3, 0] rfl ?_
  exact p_f_X8_tellPurse_b2 hd0 a0 a1 a2 0 S h0 h1 h2 (jZ_R jz0)
theorem c_X8_tellPurse {G : jG} (a0 : Int) (a1 : Int) (a2 : Int) (S : jSt) (h0 : 0 ≤ (a0)) (h1 : R32 (a1)) (h2 : R32 (a2)) : CT G yX8_tellPurse cX8_tellPurse 4 none 1 ([(2, a0), (0, a1), (0, a2)].map jval) S (f_X8_tellPurse a0 a1 a2 S) := ct_of [(2, a0), (0, a1), (0, a2)] (by decide) rfl (Nat.le_of_ble_eq_true rfl) (e_X8_tellPurse (Nat.le_refl _) a0 a1 a2 S h0 h1 h2)
-- X11_bidder
def f_X11_bidder_b22 (S : jSt) : Option (Int × jSt) :=
  some ((-1), S)
theorem p_f_X11_bidder_b22 {G : jG} {d : Nat} {S0 : jSt} (hd0 : 2 ≤ d) : ∀ (S : jSt), J G yX11_bidder cX11_bidder 3 (some .int) d S0 22 [] [] S (f_X11_bidder_b22   S) := by
  intro S
  unfold f_X11_bidder_b22
  refine j_iconst dX11_bidder_22 ?_
  exact j_ireturn (j_r32 (-1) rfl) dX11_bidder_23
def f_X11_bidder (a0 : Int) (a1 : Int) (S : jSt) : Option (Int × jSt) :=
  fcall (f_X11_within a1 0 9999 S) (fun v1 S2 => if v1 = 0 then f_X11_bidder_b22 S2 else fgetr S2 a0 11 0 (fun v3 => fget S2 v3 10 1 (fun v4 => if v4 < 5 then fgetr S2 a0 11 0 (fun v5 => fget S2 v5 10 1 (fun v6 => fgetr S2 a0 11 0 (fun v7 => fget S2 v7 10 1 (fun v8 => fput S2 v7 10 1 (w32 (v8 + 1)) (fun S9 => fgetr S9 a0 11 1 (fun v10 => fgetr S9 v10 1 2 (fun v11 => fast S9 v11 v6 1 a1 (fun S12 => fgetr S12 a0 11 2 (fun v13 => fcallv S12 v13 8 (f_X8_tellPurse v13 v6 a1 S12) (fun v14 S15 => some (v6, S15))))))))))) else f_X11_bidder_b22 S2)))
theorem e_X11_bidder {G : jG} {d : Nat} {S0 : jSt} (hd0 : 2 ≤ d) (a0 : Int) (a1 : Int) (S : jSt) (h0 : 0 ≤ (a0)) (h1 : R32 (a1)) : J G yX11_bidder cX11_bidder 3 (some .int) d S0 0 [(0, 2, a0), (1, 0, a1)] [] S (f_X11_bidder a0 a1 S) := by
  unfold f_X11_bidder
  refine j_iload_n 1 dX11_bidder_0 rfl rfl ?_
  refine j_iconst dX11_bidder_1 ?_
  refine j_sipush dX11_bidder_2 (by decide) ?_
  refine j_callS (As := [(0, a1), (0, 0), (0, 9999)]) (st := []) kc_X11_within (c_X11_within a1 0 9999 S h1 (jZ_R jz0) (j_r32 9999 rfl)) lm_X11_76 ks_X11_within rfl (Nat.le_of_ble_eq_true rfl) (Nat.le_trans (m := 2) (Nat.le_of_ble_eq_true rfl) hd0) dX11_bidder_5 (fun (v1 : Int) (S2 : jSt) (hv1 : (v1) = 0 ∨ (v1) = 1) => ?_)
  refine j_if_eq (tgt := 22) (jZ_R hv1) dX11_bidder_8 rfl (fun _ => ?_) (fun _ => ?_)
  · refine j_sub [] rfl ?_
    exact p_f_X11_bidder_b22 hd0 S2
  · refine j_aload_n 0 dX11_bidder_11 rfl rfl ?_
    refine j_getr (ci := 11) (k := 0) rfl in_X11 (Nat.le_of_ble_eq_true rfl) rfl rfl fl_X11_10 dX11_bidder_12 (fun (v3 : Int) (hv3 : 0 ≤ v3) => ?_)
    refine j_get (ci := 10) (k := 1) (t := 0) rfl in_X10 (Nat.le_of_ble_eq_true rfl) rfl rfl fl_X11_98 dX11_bidder_15 (fun (v4 : Int) (hv4 : R32 (v4)) => ?_)
    refine j_iconst dX11_bidder_18 ?_
    refine j_icmp_lt (tgt := 24) hv4 (j_r32 5 rfl) dX11_bidder_19 rfl (fun _ => ?_) (fun _ => ?_)
    · refine j_aload_n 0 dX11_bidder_24 rfl rfl ?_
      refine j_getr (ci := 11) (k := 0) rfl in_X11 (Nat.le_of_ble_eq_true rfl) rfl rfl fl_X11_10 dX11_bidder_25 (fun (v5 : Int) (hv5 : 0 ≤ v5) => ?_)
      refine j_get (ci := 10) (k := 1) (t := 0) rfl in_X10 (Nat.le_of_ble_eq_true rfl) rfl rfl fl_X11_98 dX11_bidder_28 (fun (v6 : Int) (hv6 : R32 (v6)) => ?_)
      refine j_istore_n (lv' := [(2, 0, v6), (0, 2, a0), (1, 0, a1)]) dX11_bidder_31 rfl (Nat.le_of_ble_eq_true rfl) rfl ?_
      refine j_aload_n 1 dX11_bidder_32 rfl rfl ?_
      refine j_getr (ci := 11) (k := 0) rfl in_X11 (Nat.le_of_ble_eq_true rfl) rfl rfl fl_X11_10 dX11_bidder_33 (fun (v7 : Int) (hv7 : 0 ≤ v7) => ?_)
      refine j_dup dX11_bidder_36 (fun h => nomatch h) ?_
      refine j_get (ci := 10) (k := 1) (t := 0) rfl in_X10 (Nat.le_of_ble_eq_true rfl) rfl rfl fl_X11_98 dX11_bidder_37 (fun (v8 : Int) (hv8 : R32 (v8)) => ?_)
      refine j_iconst dX11_bidder_40 ?_
      refine j_iadd dX11_bidder_41 ?_
      refine j_puti (ci := 10) (k := 1) (ty0 := tyX10) rfl in_X10 (Nat.le_of_ble_eq_true rfl) rfl tyX10_ok nmX10 rfl rfl (by decide +kernel) (w32_R _) fl_X11_98 dX11_bidder_42 (fun S9 => ?_)
      refine j_aload_n 1 dX11_bidder_45 rfl rfl ?_
      refine j_getr (ci := 11) (k := 1) rfl in_X11 (Nat.le_of_ble_eq_true rfl) rfl rfl fl_X11_19 dX11_bidder_46 (fun (v10 : Int) (hv10 : 0 ≤ v10) => ?_)
      refine j_getr (ci := 1) (k := 2) rfl in_X1 (Nat.le_of_ble_eq_true rfl) rfl rfl fl_X11_101 dX11_bidder_49 (fun (v11 : Int) (hv11 : 0 ≤ v11) => ?_)
      refine j_iload_n 0 dX11_bidder_52 rfl rfl ?_
      refine j_iload_n 2 dX11_bidder_53 rfl rfl ?_
      refine j_iastore hv6 h1 dX11_bidder_54 (fun S12 => ?_)
      refine j_aload_n 1 dX11_bidder_55 rfl rfl ?_
      refine j_getr (ci := 11) (k := 2) rfl in_X11 (Nat.le_of_ble_eq_true rfl) rfl rfl fl_X11_26 dX11_bidder_56 (fun (v13 : Int) (hv13 : 0 ≤ v13) => ?_)
      refine j_iload_n 0 dX11_bidder_59 rfl rfl ?_
      refine j_iload_n 2 dX11_bidder_60 rfl rfl ?_
      refine j_callV (ci := 8) (As := [(0, v6), (0, a1)]) (st := []) kc_X8_tellPurse (c_X8_tellPurse v13 v6 a1 S12 hv13 hv6 h1) rfl lm_X11_104 ki_X8_tellPurse ke_X8_tellPurse rfl (Nat.le_of_ble_eq_true rfl) (Nat.le_trans (m := 2) (Nat.le_of_ble_eq_true rfl) hd0) dX11_bidder_61 (fun v14 S15 _ => ?_)
      refine j_iload_n 0 dX11_bidder_64 rfl rfl ?_
      exact j_ireturn hv6 dX11_bidder_65
    · refine j_sub [] rfl ?_
      exact p_f_X11_bidder_b22 hd0 S2
theorem c_X11_bidder {G : jG} (a0 : Int) (a1 : Int) (S : jSt) (h0 : 0 ≤ (a0)) (h1 : R32 (a1)) : CT G yX11_bidder cX11_bidder 3 (some .int) 2 ([(2, a0), (0, a1)].map jval) S (f_X11_bidder a0 a1 S) := ct_of [(2, a0), (0, a1)] (by decide) rfl (Nat.le_of_ble_eq_true rfl) (e_X11_bidder (Nat.le_refl _) a0 a1 S h0 h1)
-- X11_bids
def f_X11_bids_b22 (S : jSt) : Option (Int × jSt) :=
  some ((-1), S)
theorem p_f_X11_bids_b22 {G : jG} {d : Nat} {S0 : jSt} (hd0 : 4 ≤ d) : ∀ (S : jSt), J G yX11_bids cX11_bids 3 (some .int) d S0 22 [] [] S (f_X11_bids_b22   S) := by
  intro S
  unfold f_X11_bids_b22
  refine j_iconst dX11_bids_22 ?_
  exact j_ireturn (j_r32 (-1) rfl) dX11_bids_23
def f_X11_bids (a0 : Int) (a1 : Int) (a2 : Int) (S : jSt) : Option (Int × jSt) :=
  fgetr S a0 11 0 (fun v1 => fcallv S v1 10 (f_X10_hasBidder v1 a1 S) (fun v2 S3 => if v2 = 0 then f_X11_bids_b22 S3 else fgetr S3 a0 11 0 (fun v4 => fcallv S3 v4 10 (f_X10_hasLot v4 a2 S3) (fun v5 S6 => if v5 = 0 then f_X11_bids_b22 S6 else fgetr S6 a0 11 8 (fun v7 => fgetr S6 a0 11 1 (fun v8 => fcallv S6 v7 5 (f_X5_bidOf v7 v8 a1 a2 S6) (fun v9 S10 => some (v9, S10))))))))
theorem e_X11_bids {G : jG} {d : Nat} {S0 : jSt} (hd0 : 4 ≤ d) (a0 : Int) (a1 : Int) (a2 : Int) (S : jSt) (h0 : 0 ≤ (a0)) (h1 : R32 (a1)) (h2 : R32 (a2)) : J G yX11_bids cX11_bids 3 (some .int) d S0 0 [(0, 2, a0), (1, 0, a1), (2, 0, a2)] [] S (f_X11_bids a0 a1 a2 S) := by
  unfold f_X11_bids
  refine j_aload_n 0 dX11_bids_0 rfl rfl ?_
  refine j_getr (ci := 11) (k := 0) rfl in_X11 (Nat.le_of_ble_eq_true rfl) rfl rfl fl_X11_10 dX11_bids_1 (fun (v1 : Int) (hv1 : 0 ≤ v1) => ?_)
  refine j_iload_n 1 dX11_bids_4 rfl rfl ?_
  refine j_callV (ci := 10) (As := [(0, a1)]) (st := []) kc_X10_hasBidder (c_X10_hasBidder v1 a1 S hv1 h1) rfl lm_X11_107 ki_X10_hasBidder ke_X10_hasBidder rfl (Nat.le_of_ble_eq_true rfl) (Nat.le_trans (m := 4) (Nat.le_of_ble_eq_true rfl) hd0) dX11_bids_5 (fun (v2 : Int) (S3 : jSt) (hv2 : (v2) = 0 ∨ (v2) = 1) => ?_)
  refine j_if_eq (tgt := 22) (jZ_R hv2) dX11_bids_8 rfl (fun _ => ?_) (fun _ => ?_)
  · refine j_sub [] rfl ?_
    exact p_f_X11_bids_b22 hd0 S3
  · refine j_aload_n 0 dX11_bids_11 rfl rfl ?_
    refine j_getr (ci := 11) (k := 0) rfl in_X11 (Nat.le_of_ble_eq_true rfl) rfl rfl fl_X11_10 dX11_bids_12 (fun (v4 : Int) (hv4 : 0 ≤ v4) => ?_)
    refine j_iload_n 2 dX11_bids_15 rfl rfl ?_
    refine j_callV (ci := 10) (As := [(0, a2)]) (st := []) kc_X10_hasLot (c_X10_hasLot v4 a2 S3 hv4 h2) rfl lm_X11_111 ki_X10_hasLot ke_X10_hasLot rfl (Nat.le_of_ble_eq_true rfl) (Nat.le_trans (m := 4) (Nat.le_of_ble_eq_true rfl) hd0) dX11_bids_16 (fun (v5 : Int) (S6 : jSt) (hv5 : (v5) = 0 ∨ (v5) = 1) => ?_)
    refine j_if_ne (tgt := 24) (jZ_R hv5) dX11_bids_19 rfl (fun _ => ?_) (fun _ => ?_)
    · refine j_aload_n 0 dX11_bids_24 rfl rfl ?_
      refine j_getr (ci := 11) (k := 8) rfl in_X11 (Nat.le_of_ble_eq_true rfl) rfl rfl fl_X11_60 dX11_bids_25 (fun (v7 : Int) (hv7 : 0 ≤ v7) => ?_)
      refine j_aload_n 0 dX11_bids_28 rfl rfl ?_
      refine j_getr (ci := 11) (k := 1) rfl in_X11 (Nat.le_of_ble_eq_true rfl) rfl rfl fl_X11_19 dX11_bids_29 (fun (v8 : Int) (hv8 : 0 ≤ v8) => ?_)
      refine j_iload_n 1 dX11_bids_32 rfl rfl ?_
      refine j_iload_n 2 dX11_bids_33 rfl rfl ?_
      refine j_callV (ci := 5) (As := [(2, v8), (0, a1), (0, a2)]) (st := []) kc_X5_bidOf (c_X5_bidOf v7 v8 a1 a2 S6 hv7 hv8 h1 h2) rfl lm_X11_274 ki_X5_bidOf ke_X5_bidOf rfl (Nat.le_of_ble_eq_true rfl) (Nat.le_trans (m := 4) (Nat.le_of_ble_eq_true rfl) hd0) dX11_bids_34 (fun (v9 : Int) (S10 : jSt) (hv9 : R32 (v9)) => ?_)
      exact j_ireturn hv9 dX11_bids_37
    · refine j_sub [] rfl ?_
      exact p_f_X11_bids_b22 hd0 S6
theorem c_X11_bids {G : jG} (a0 : Int) (a1 : Int) (a2 : Int) (S : jSt) (h0 : 0 ≤ (a0)) (h1 : R32 (a1)) (h2 : R32 (a2)) : CT G yX11_bids cX11_bids 3 (some .int) 4 ([(2, a0), (0, a1), (0, a2)].map jval) S (f_X11_bids a0 a1 a2 S) := ct_of [(2, a0), (0, a1), (0, a2)] (by decide) rfl (Nat.le_of_ble_eq_true rfl) (e_X11_bids (Nat.le_refl _) a0 a1 a2 S h0 h1 h2)
-- X11_book
def f_X11_book_b39 (S : jSt) : Option (Int × jSt) :=
  some ((-2), S)
theorem p_f_X11_book_b39 {G : jG} {d : Nat} {S0 : jSt} (hd0 : 2 ≤ d) : ∀ (S : jSt), J G yX11_book cX11_book 3 (some .int) d S0 39 [] [] S (f_X11_book_b39   S) := by
  intro S
  unfold f_X11_book_b39
  refine j_bipush dX11_book_39 (by decide) ?_
  exact j_ireturn (j_r32 (-2) rfl) dX11_book_41
def f_X11_book (a0 : Int) (a1 : Int) (a2 : Int) (S : jSt) : Option (Int × jSt) :=
  if a1 = (-1) then fgetr S a0 11 1 (fun v10 => fget S v10 1 5 (fun v11 => some (v11, S))) else fgetr S a0 11 1 (fun v1 => fget S v1 1 5 (fun v2 => fcall (f_X11_within a1 0 (w32 (v2 - 1)) S) (fun v3 S4 => if v3 = 0 then f_X11_book_b39 S4 else fcall (f_X11_within a2 0 3 S4) (fun v5 S6 => if v5 = 0 then f_X11_book_b39 S6 else fgetr S6 a0 11 1 (fun v7 => fgetr S6 v7 1 4 (fun v8 => fald S6 v8 (w32 ((w32 (a1 * 4)) + a2)) 1 (fun v9 => some (v9, S6))))))))
theorem e_X11_book {G : jG} {d : Nat} {S0 : jSt} (hd0 : 2 ≤ d) (a0 : Int) (a1 : Int) (a2 : Int) (S : jSt) (h0 : 0 ≤ (a0)) (h1 : R32 (a1)) (h2 : R32 (a2)) : J G yX11_book cX11_book 3 (some .int) d S0 0 [(0, 2, a0), (1, 0, a1), (2, 0, a2)] [] S (f_X11_book a0 a1 a2 S) := by
  unfold f_X11_book
  refine j_iload_n 1 dX11_book_0 rfl rfl ?_
  refine j_iconst dX11_book_1 ?_
  refine j_icmp_ne (tgt := 13) h1 (j_r32 (-1) rfl) dX11_book_2 rfl (fun _ => ?_) (fun _ => ?_)
  · refine j_iload_n 1 dX11_book_13 rfl rfl ?_
    refine j_iconst dX11_book_14 ?_
    refine j_aload_n 0 dX11_book_15 rfl rfl ?_
    refine j_getr (ci := 11) (k := 1) rfl in_X11 (Nat.le_of_ble_eq_true rfl) rfl rfl fl_X11_19 dX11_book_16 (fun (v1 : Int) (hv1 : 0 ≤ v1) => ?_)
    refine j_get (ci := 1) (k := 5) (t := 0) rfl in_X1 (Nat.le_of_ble_eq_true rfl) rfl rfl fl_X11_288 dX11_book_19 (fun (v2 : Int) (hv2 : R32 (v2)) => ?_)
    refine j_iconst dX11_book_22 ?_
    refine j_isub dX11_book_23 ?_
    refine j_callS (As := [(0, a1), (0, 0), (0, w32 (v2 - 1))]) (st := []) kc_X11_within (c_X11_within a1 0 (w32 (v2 - 1)) S h1 (jZ_R jz0) (w32_R _)) lm_X11_76 ks_X11_within rfl (Nat.le_of_ble_eq_true rfl) (Nat.le_trans (m := 2) (Nat.le_of_ble_eq_true rfl) hd0) dX11_book_24 (fun (v3 : Int) (S4 : jSt) (hv3 : (v3) = 0 ∨ (v3) = 1) => ?_)
    refine j_if_eq (tgt := 39) (jZ_R hv3) dX11_book_27 rfl (fun _ => ?_) (fun _ => ?_)
    · refine j_sub [] rfl ?_
      exact p_f_X11_book_b39 hd0 S4
    · refine j_iload_n 2 dX11_book_30 rfl rfl ?_
      refine j_iconst dX11_book_31 ?_
      refine j_iconst dX11_book_32 ?_
      refine j_callS (As := [(0, a2), (0, 0), (0, 3)]) (st := []) kc_X11_within (c_X11_within a2 0 3 S4 h2 (jZ_R jz0) (j_r32 3 rfl)) lm_X11_76 ks_X11_within rfl (Nat.le_of_ble_eq_true rfl) (Nat.le_trans (m := 2) (Nat.le_of_ble_eq_true rfl) hd0) dX11_book_33 (fun (v5 : Int) (S6 : jSt) (hv5 : (v5) = 0 ∨ (v5) = 1) => ?_)
      refine j_if_ne (tgt := 42) (jZ_R hv5) dX11_book_36 rfl (fun _ => ?_) (fun _ => ?_)
      · refine j_aload_n 0 dX11_book_42 rfl rfl ?_
        refine j_getr (ci := 11) (k := 1) rfl in_X11 (Nat.le_of_ble_eq_true rfl) rfl rfl fl_X11_19 dX11_book_43 (fun (v7 : Int) (hv7 : 0 ≤ v7) => ?_)
        refine j_getr (ci := 1) (k := 4) rfl in_X1 (Nat.le_of_ble_eq_true rfl) rfl rfl fl_X11_291 dX11_book_46 (fun (v8 : Int) (hv8 : 0 ≤ v8) => ?_)
        refine j_iload_n 1 dX11_book_49 rfl rfl ?_
        refine j_iconst dX11_book_50 ?_
        refine j_imul dX11_book_51 ?_
        refine j_iload_n 2 dX11_book_52 rfl rfl ?_
        refine j_iadd dX11_book_53 ?_
        refine j_iaload (w32_R _) dX11_book_54 (fun (v9 : Int) (hv9 : R32 (v9)) => ?_)
        exact j_ireturn hv9 dX11_book_55
      · refine j_sub [] rfl ?_
        exact p_f_X11_book_b39 hd0 S6
  · refine j_aload_n 0 dX11_book_5 rfl rfl ?_
    refine j_getr (ci := 11) (k := 1) rfl in_X11 (Nat.le_of_ble_eq_true rfl) rfl rfl fl_X11_19 dX11_book_6 (fun (v10 : Int) (hv10 : 0 ≤ v10) => ?_)
    refine j_get (ci := 1) (k := 5) (t := 0) rfl in_X1 (Nat.le_of_ble_eq_true rfl) rfl rfl fl_X11_288 dX11_book_9 (fun (v11 : Int) (hv11 : R32 (v11)) => ?_)
    exact j_ireturn hv11 dX11_book_12
theorem c_X11_book {G : jG} (a0 : Int) (a1 : Int) (a2 : Int) (S : jSt) (h0 : 0 ≤ (a0)) (h1 : R32 (a1)) (h2 : R32 (a2)) : CT G yX11_book cX11_book 3 (some .int) 2 ([(2, a0), (0, a1), (0, a2)].map jval) S (f_X11_book a0 a1 a2 S) := ct_of [(2, a0), (0, a1), (0, a2)] (by decide) rfl (Nat.le_of_ble_eq_true rfl) (e_X11_book (Nat.le_refl _) a0 a1 a2 S h0 h1 h2)
-- X7_joins
def f_X7_joins_b18 (x0 : Int) (S : jSt) : Option (Int × jSt) :=
  some (x0, S)
theorem p_f_X7_joins_b18 {G : jG} {d : Nat} {S0 : jSt} (hd0 : 1 ≤ d) : ∀ (x0 : Int) (S : jSt), ((x0) = 0 ∨ (x0) = 1) → J G yX7_joins cX7_joins 3 (some .boolean) d S0 18 [] [(0, x0)] S (f_X7_joins_b18  x0 S) := by
  intro x0 S h0
  unfold f_X7_joins_b18
  exact j_zreturn h0 dX7_joins_18
def f_X7_joins (a0 : Int) (a1 : Int) (a2 : Int) (S : jSt) : Option (Int × jSt) :=
  fgetr S a0 7 0 (fun v1 => fald S v1 a1 1 (fun v2 => if (iand32 (ishr32 v2 a2) 1) = 0 then f_X7_joins_b18 0 S else f_X7_joins_b18 1 S))
theorem e_X7_joins {G : jG} {d : Nat} {S0 : jSt} (hd0 : 1 ≤ d) (a0 : Int) (a1 : Int) (a2 : Int) (S : jSt) (h0 : 0 ≤ (a0)) (h1 : R32 (a1)) (h2 : R32 (a2)) : J G yX7_joins cX7_joins 3 (some .boolean) d S0 0 [(0, 2, a0), (1, 0, a1), (2, 0, a2)] [] S (f_X7_joins a0 a1 a2 S) := by
  unfold f_X7_joins
  refine j_aload_n 0 dX7_joins_0 rfl rfl ?_
  refine j_getr (ci := 7) (k := 0) rfl in_X7 (Nat.le_of_ble_eq_true rfl) rfl rfl fl_X7_9 dX7_joins_1 (fun (v1 : Int) (hv1 : 0 ≤ v1) => ?_)
  refine j_iload_n 1 dX7_joins_4 rfl rfl ?_
  refine j_iaload h1 dX7_joins_5 (fun (v2 : Int) (hv2 : R32 (v2)) => ?_)
  refine j_iload_n 2 dX7_joins_6 rfl rfl ?_
  refine j_ishr dX7_joins_7 ?_
  refine j_iconst dX7_joins_8 ?_
  refine j_iand dX7_joins_9 ?_
  refine j_if_eq (tgt := 17) (iand32_R _ _) dX7_joins_10 rfl (fun _ => ?_) (fun _ => ?_)
  · refine j_iconst dX7_joins_17 ?_
    refine j_sub [] rfl ?_
    exact p_f_X7_joins_b18 hd0 0 S jz0
  · refine j_iconst dX7_joins_13 ?_
    refine j_goto (tgt := 18) dX7_joins_14 rfl ?_
    refine j_sub [] rfl ?_
    exact p_f_X7_joins_b18 hd0 1 S jz1
theorem c_X7_joins {G : jG} (a0 : Int) (a1 : Int) (a2 : Int) (S : jSt) (h0 : 0 ≤ (a0)) (h1 : R32 (a1)) (h2 : R32 (a2)) : CT G yX7_joins cX7_joins 3 (some .boolean) 1 ([(2, a0), (0, a1), (0, a2)].map jval) S (f_X7_joins a0 a1 a2 S) := ct_of [(2, a0), (0, a1), (0, a2)] (by decide) rfl (Nat.le_of_ble_eq_true rfl) (e_X7_joins (Nat.le_refl _) a0 a1 a2 S h0 h1 h2)
-- X7_stairsOutOf
def f_X7_stairsOutOf_b34 (r4 : Int → Int → Int → Int → jSt → Option (Int × jSt)) (x0 : Int) (x1 : Int) (x2 : Int) (x3 : Int) (S : jSt) : Option (Int × jSt) :=
  flet (w32 (x3 + 1)) (fun v1 => r4 x0 x1 x2 v1 S)
theorem p_f_X7_stairsOutOf_b34 {G : jG} {d : Nat} {S0 : jSt} (hd0 : 2 ≤ d) {r4 : Int → Int → Int → Int → jSt → Option (Int × jSt)} (k4 : ∀ (x0 : Int) (x1 : Int) (x2 : Int) (x3 : Int) (S : jSt), (0 ≤ (x0)) → (R32 (x1)) → (R32 (x2)) → (R32 (x3)) → J G yX7_stairsOutOf cX7_stairsOutOf 4 (some .int) d S0 4 [(0, 2, x0), (1, 0, x1), (2, 0, x2), (3, 0, x3)] [] S (r4 x0 x1 x2 x3 S)) : ∀ (x0 : Int) (x1 : Int) (x2 : Int) (x3 : Int) (S : jSt), (0 ≤ (x0)) → (R32 (x1)) → (R32 (x2)) → (R32 (x3)) → J G yX7_stairsOutOf cX7_stairsOutOf 4 (some .int) d S0 34 [(0, 2, x0), (1, 0, x1), (2, 0, x2), (3, 0, x3)] [] S (f_X7_stairsOutOf_b34 r4 x0 x1 x2 x3 S) := by
  intro x0 x1 x2 x3 S h0 h1 h2 h3
  unfold f_X7_stairsOutOf_b34
  refine j_iincL (q := 3) dX7_stairsOutOf_34 rfl (Nat.le_of_ble_eq_true rfl) (fun v1 hv1 => ?_)
  refine j_lv (lv' := [(3, 0, v1), (0, 2, x0), (1, 0, x1), (2, 0, x2)]) rfl ?_
  refine j_goto (tgt := 4) dX7_stairsOutOf_37 rfl ?_
  refine j_sub [1, 2, 3, 0] rfl ?_
  exact k4 x0 x1 x2 v1 S h0 h1 h2 hv1
def f_X7_stairsOutOf_b4B (r4 : Int → Int → Int → Int → jSt → Option (Int × jSt)) (x0 : Int) (x1 : Int) (x2 : Int) (x3 : Int) (S : jSt) : Option (Int × jSt) :=
  if 6 ≤ x3 then some (x2, S) else if (iand32 (ishr32 x1 x3) 1) = 0 then f_X7_stairsOutOf_b34 r4 x0 x1 x2 x3 S else fgetr S x0 7 0 (fun v2 => fald S v2 x3 1 (fun v3 => fcall (f_J6_bitCount_0f7a4 (iand32 v3 (ixor32 x1 (-1))) S) (fun v4 S5 => flet (w32 (x2 + v4)) (fun v6 => f_X7_stairsOutOf_b34 r4 x0 x1 v6 x3 S5))))
theorem p_f_X7_stairsOutOf_b4B {G : jG} {d : Nat} {S0 : jSt} (hd0 : 2 ≤ d) {r4 : Int → Int → Int → Int → jSt → Option (Int × jSt)} (k4 : ∀ (x0 : Int) (x1 : Int) (x2 : Int) (x3 : Int) (S : jSt), (0 ≤ (x0)) → (R32 (x1)) → (R32 (x2)) → (R32 (x3)) → J G yX7_stairsOutOf cX7_stairsOutOf 4 (some .int) d S0 4 [(0, 2, x0), (1, 0, x1), (2, 0, x2), (3, 0, x3)] [] S (r4 x0 x1 x2 x3 S)) : ∀ (x0 : Int) (x1 : Int) (x2 : Int) (x3 : Int) (S : jSt), (0 ≤ (x0)) → (R32 (x1)) → (R32 (x2)) → (R32 (x3)) → J G yX7_stairsOutOf cX7_stairsOutOf 4 (some .int) d S0 4 [(0, 2, x0), (1, 0, x1), (2, 0, x2), (3, 0, x3)] [] S (f_X7_stairsOutOf_b4B r4 x0 x1 x2 x3 S) := by
  intro x0 x1 x2 x3 S h0 h1 h2 h3
  unfold f_X7_stairsOutOf_b4B
  refine j_iload_n 3 dX7_stairsOutOf_4 rfl rfl ?_
  refine j_bipush dX7_stairsOutOf_5 (by decide) ?_
  refine j_icmp_ge (tgt := 40) h3 (j_r32 6 rfl) dX7_stairsOutOf_7 rfl (fun _ => ?_) (fun _ => ?_)
  · refine j_iload_n 2 dX7_stairsOutOf_40 rfl rfl ?_
    exact j_ireturn h2 dX7_stairsOutOf_41
  · refine j_iload_n 1 dX7_stairsOutOf_10 rfl rfl ?_
    refine j_iload_n 3 dX7_stairsOutOf_11 rfl rfl ?_
    refine j_ishr dX7_stairsOutOf_12 ?_
    refine j_iconst dX7_stairsOutOf_13 ?_
    refine j_iand dX7_stairsOutOf_14 ?_
    refine j_if_eq (tgt := 34) (iand32_R _ _) dX7_stairsOutOf_15 rfl (fun _ => ?_) (fun _ => ?_)
    · exact p_f_X7_stairsOutOf_b34 hd0 k4 x0 x1 x2 x3 S h0 h1 h2 h3
    · refine j_iload_n 2 dX7_stairsOutOf_18 rfl rfl ?_
      refine j_aload_n 0 dX7_stairsOutOf_19 rfl rfl ?_
      refine j_getr (ci := 7) (k := 0) rfl in_X7 (Nat.le_of_ble_eq_true rfl) rfl rfl fl_X7_9 dX7_stairsOutOf_20 (fun (v2 : Int) (hv2 : 0 ≤ v2) => ?_)
      refine j_iload_n 3 dX7_stairsOutOf_23 rfl rfl ?_
      refine j_iaload h3 dX7_stairsOutOf_24 (fun (v3 : Int) (hv3 : R32 (v3)) => ?_)
      refine j_iload_n 1 dX7_stairsOutOf_25 rfl rfl ?_
      refine j_iconst dX7_stairsOutOf_26 ?_
      refine j_ixor dX7_stairsOutOf_27 ?_
      refine j_iand dX7_stairsOutOf_28 ?_
      refine j_callS (As := [(0, iand32 v3 (ixor32 x1 (-1)))]) (st := [(0, x2)]) kc_J6_bitCount_0f7a4 (c_J6_bitCount_0f7a4 (iand32 v3 (ixor32 x1 (-1))) S (iand32_R _ _)) lm_X7_28 ks_J6_bitCount_0f7a4 rfl (Nat.le_of_ble_eq_true rfl) (Nat.le_trans (m := 2) (Nat.le_of_ble_eq_true rfl) hd0) dX7_stairsOutOf_29 (fun (v4 : Int) (S5 : jSt) (hv4 : R32 (v4)) => ?_)
      refine j_iadd dX7_stairsOutOf_32 ?_
      refine j_leti (w32_R _) (fun v6 hv6 => ?_)
      refine j_istore_n (lv' := [(2, 0, v6), (0, 2, x0), (1, 0, x1), (3, 0, x3)]) dX7_stairsOutOf_33 rfl (Nat.le_of_ble_eq_true rfl) rfl ?_
      refine j_sub [1, 2, 0, 3] rfl ?_
      exact p_f_X7_stairsOutOf_b34 hd0 k4 x0 x1 v6 x3 S5 h0 h1 hv6 h3
def f_X7_stairsOutOf_b4 : Int → Int → Int → Int → jSt → Option (Int × jSt) := jrep (β := Int → Int → Int → Int → jSt → Option (Int × jSt)) (fun _ _ _ _ _ => none) (fun r => f_X7_stairsOutOf_b4B r) jN
theorem p_f_X7_stairsOutOf_b4 {G : jG} {d : Nat} {S0 : jSt} (hd0 : 2 ≤ d) : ∀ (x0 : Int) (x1 : Int) (x2 : Int) (x3 : Int) (S : jSt), (0 ≤ (x0)) → (R32 (x1)) → (R32 (x2)) → (R32 (x3)) → J G yX7_stairsOutOf cX7_stairsOutOf 4 (some .int) d S0 4 [(0, 2, x0), (1, 0, x1), (2, 0, x2), (3, 0, x3)] [] S (f_X7_stairsOutOf_b4  x0 x1 x2 x3 S) :=
  jrep_ind (P := fun (r : Int → Int → Int → Int → jSt → Option (Int × jSt)) => ∀ (x0 : Int) (x1 : Int) (x2 : Int) (x3 : Int) (S : jSt), (0 ≤ (x0)) → (R32 (x1)) → (R32 (x2)) → (R32 (x3)) → J G yX7_stairsOutOf cX7_stairsOutOf 4 (some .int) d S0 4 [(0, 2, x0), (1, 0, x1), (2, 0, x2), (3, 0, x3)] [] S (r x0 x1 x2 x3 S)) (by intros; exact j_none) (fun r k => p_f_X7_stairsOutOf_b4B hd0 k) jN
def f_X7_stairsOutOf (a0 : Int) (a1 : Int) (S : jSt) : Option (Int × jSt) :=
  f_X7_stairsOutOf_b4 a0 a1 0 0 S
theorem e_X7_stairsOutOf {G : jG} {d : Nat} {S0 : jSt} (hd0 : 2 ≤ d) (a0 : Int) (a1 : Int) (S : jSt) (h0 : 0 ≤ (a0)) (h1 : R32 (a1)) : J G yX7_stairsOutOf cX7_stairsOutOf 4 (some .int) d S0 0 [(0, 2, a0), (1, 0, a1)] [] S (f_X7_stairsOutOf a0 a1 S) := by
  unfold f_X7_stairsOutOf
  refine j_iconst dX7_stairsOutOf_0 ?_
  refine j_istore_n (lv' := [(2, 0, 0), (0, 2, a0), (1, 0, a1)]) dX7_stairsOutOf_1 rfl (Nat.le_of_ble_eq_true rfl) rfl ?_
  refine j_iconst dX7_stairsOutOf_2 ?_
  refine j_istore_n (lv' := [(3, 0, 0), (2, 0, 0), (0, 2, a0), (1, 0, a1)]) dX7_stairsOutOf_3 rfl (Nat.le_of_ble_eq_true rfl) rfl ?_
  refine j_sub [2, 3, 1, 0] rfl ?_
  exact p_f_X7_stairsOutOf_b4 hd0 a0 a1 0 0 S h0 h1 (jZ_R jz0) (jZ_R jz0)
theorem c_X7_stairsOutOf {G : jG} (a0 : Int) (a1 : Int) (S : jSt) (h0 : 0 ≤ (a0)) (h1 : R32 (a1)) : CT G yX7_stairsOutOf cX7_stairsOutOf 4 (some .int) 2 ([(2, a0), (0, a1)].map jval) S (f_X7_stairsOutOf a0 a1 S) := ct_of [(2, a0), (0, a1)] (by decide) rfl (Nat.le_of_ble_eq_true rfl) (e_X7_stairsOutOf (Nat.le_refl _) a0 a1 S h0 h1)
-- X7_leastCut
def f_X7_leastCut_b42 (r6 : Int → Int → Int → Int → Int → jSt → Option (Int × jSt)) (x0 : Int) (x1 : Int) (x2 : Int) (x3 : Int) (x4 : Int) (S : jSt) : Option (Int × jSt) :=
  flet (w32 (x4 + 1)) (fun v1 => r6 x0 x1 x2 x3 v1 S)
theorem p_f_X7_leastCut_b42 {G : jG} {d : Nat} {S0 : jSt} (hd0 : 3 ≤ d) {r6 : Int → Int → Int → Int → Int → jSt → Option (Int × jSt)} (k6 : ∀ (x0 : Int) (x1 : Int) (x2 : Int) (x3 : Int) (x4 : Int) (S : jSt), (0 ≤ (x0)) → (R32 (x1)) → (R32 (x2)) → (R32 (x3)) → (R32 (x4)) → J G yX7_leastCut cX7_leastCut 5 (some .int) d S0 6 [(0, 2, x0), (1, 0, x1), (2, 0, x2), (3, 0, x3), (4, 0, x4)] [] S (r6 x0 x1 x2 x3 x4 S)) : ∀ (x0 : Int) (x1 : Int) (x2 : Int) (x3 : Int) (x4 : Int) (S : jSt), (0 ≤ (x0)) → (R32 (x1)) → (R32 (x2)) → (R32 (x3)) → (R32 (x4)) → J G yX7_leastCut cX7_leastCut 5 (some .int) d S0 42 [(0, 2, x0), (1, 0, x1), (2, 0, x2), (3, 0, x3), (4, 0, x4)] [] S (f_X7_leastCut_b42 r6 x0 x1 x2 x3 x4 S) := by
  intro x0 x1 x2 x3 x4 S h0 h1 h2 h3 h4
  unfold f_X7_leastCut_b42
  refine j_iincL (q := 4) dX7_leastCut_42 rfl (Nat.le_of_ble_eq_true rfl) (fun v1 hv1 => ?_)
  refine j_lv (lv' := [(4, 0, v1), (0, 2, x0), (1, 0, x1), (2, 0, x2), (3, 0, x3)]) rfl ?_
  refine j_goto (tgt := 6) dX7_leastCut_45 rfl ?_
  refine j_sub [1, 2, 3, 4, 0] rfl ?_
  exact k6 x0 x1 x2 x3 v1 S h0 h1 h2 h3 hv1
def f_X7_leastCut_b6B (r6 : Int → Int → Int → Int → Int → jSt → Option (Int × jSt)) (x0 : Int) (x1 : Int) (x2 : Int) (x3 : Int) (x4 : Int) (S : jSt) : Option (Int × jSt) :=
  if 64 ≤ x4 then some (x3, S) else if (iand32 (ishr32 x4 x1) 1) = 0 then f_X7_leastCut_b42 r6 x0 x1 x2 x3 x4 S else if (iand32 (ishr32 x4 x2) 1) = 0 then fcallv S x0 7 (f_X7_stairsOutOf x0 x4 S) (fun v2 S3 => flet (imin x3 v2) (fun v4 => f_X7_leastCut_b42 r6 x0 x1 x2 v4 x4 S3)) else f_X7_leastCut_b42 r6 x0 x1 x2 x3 x4 S
theorem p_f_X7_leastCut_b6B {G : jG} {d : Nat} {S0 : jSt} (hd0 : 3 ≤ d) {r6 : Int → Int → Int → Int → Int → jSt → Option (Int × jSt)} (k6 : ∀ (x0 : Int) (x1 : Int) (x2 : Int) (x3 : Int) (x4 : Int) (S : jSt), (0 ≤ (x0)) → (R32 (x1)) → (R32 (x2)) → (R32 (x3)) → (R32 (x4)) → J G yX7_leastCut cX7_leastCut 5 (some .int) d S0 6 [(0, 2, x0), (1, 0, x1), (2, 0, x2), (3, 0, x3), (4, 0, x4)] [] S (r6 x0 x1 x2 x3 x4 S)) : ∀ (x0 : Int) (x1 : Int) (x2 : Int) (x3 : Int) (x4 : Int) (S : jSt), (0 ≤ (x0)) → (R32 (x1)) → (R32 (x2)) → (R32 (x3)) → (R32 (x4)) → J G yX7_leastCut cX7_leastCut 5 (some .int) d S0 6 [(0, 2, x0), (1, 0, x1), (2, 0, x2), (3, 0, x3), (4, 0, x4)] [] S (f_X7_leastCut_b6B r6 x0 x1 x2 x3 x4 S) := by
  intro x0 x1 x2 x3 x4 S h0 h1 h2 h3 h4
  unfold f_X7_leastCut_b6B
  refine j_iload 4 dX7_leastCut_6 rfl ?_
  refine j_bipush dX7_leastCut_8 (by decide) ?_
  refine j_icmp_ge (tgt := 48) h4 (j_r32 64 rfl) dX7_leastCut_10 rfl (fun _ => ?_) (fun _ => ?_)
  · refine j_iload_n 3 dX7_leastCut_48 rfl rfl ?_
    exact j_ireturn h3 dX7_leastCut_49
  · refine j_iload 4 dX7_leastCut_13 rfl ?_
    refine j_iload_n 1 dX7_leastCut_15 rfl rfl ?_
    refine j_ishr dX7_leastCut_16 ?_
    refine j_iconst dX7_leastCut_17 ?_
    refine j_iand dX7_leastCut_18 ?_
    refine j_if_eq (tgt := 42) (iand32_R _ _) dX7_leastCut_19 rfl (fun _ => ?_) (fun _ => ?_)
    · exact p_f_X7_leastCut_b42 hd0 k6 x0 x1 x2 x3 x4 S h0 h1 h2 h3 h4
    · refine j_iload 4 dX7_leastCut_22 rfl ?_
      refine j_iload_n 2 dX7_leastCut_24 rfl rfl ?_
      refine j_ishr dX7_leastCut_25 ?_
      refine j_iconst dX7_leastCut_26 ?_
      refine j_iand dX7_leastCut_27 ?_
      refine j_if_ne (tgt := 42) (iand32_R _ _) dX7_leastCut_28 rfl (fun _ => ?_) (fun _ => ?_)
      · exact p_f_X7_leastCut_b42 hd0 k6 x0 x1 x2 x3 x4 S h0 h1 h2 h3 h4
      · refine j_iload_n 3 dX7_leastCut_31 rfl rfl ?_
        refine j_aload_n 0 dX7_leastCut_32 rfl rfl ?_
        refine j_iload 4 dX7_leastCut_33 rfl ?_
        refine j_callV (ci := 7) (As := [(0, x4)]) (st := [(0, x3)]) kc_X7_stairsOutOf (c_X7_stairsOutOf x0 x4 S h0 h4) rfl lm_X7_19 ki_X7_stairsOutOf ke_X7_stairsOutOf rfl (Nat.le_of_ble_eq_true rfl) (Nat.le_trans (m := 3) (Nat.le_of_ble_eq_true rfl) hd0) dX7_leastCut_35 (fun (v2 : Int) (S3 : jSt) (hv2 : R32 (v2)) => ?_)
        refine j_mmin h3 hv2 lx_X7_22 mx_s_mmin mx_i mx_c_mmin (Nat.le_of_ble_eq_true rfl) (Nat.le_trans (Nat.le_of_ble_eq_true rfl) hd0) dX7_leastCut_38 ?_
        refine j_leti (imin_R h3 hv2) (fun v4 hv4 => ?_)
        refine j_istore_n (lv' := [(3, 0, v4), (0, 2, x0), (1, 0, x1), (2, 0, x2), (4, 0, x4)]) dX7_leastCut_41 rfl (Nat.le_of_ble_eq_true rfl) rfl ?_
        refine j_sub [1, 2, 3, 0, 4] rfl ?_
        exact p_f_X7_leastCut_b42 hd0 k6 x0 x1 x2 v4 x4 S3 h0 h1 h2 hv4 h4
def f_X7_leastCut_b6 : Int → Int → Int → Int → Int → jSt → Option (Int × jSt) := jrep (β := Int → Int → Int → Int → Int → jSt → Option (Int × jSt)) (fun _ _ _ _ _ _ => none) (fun r => f_X7_leastCut_b6B r) jN
theorem p_f_X7_leastCut_b6 {G : jG} {d : Nat} {S0 : jSt} (hd0 : 3 ≤ d) : ∀ (x0 : Int) (x1 : Int) (x2 : Int) (x3 : Int) (x4 : Int) (S : jSt), (0 ≤ (x0)) → (R32 (x1)) → (R32 (x2)) → (R32 (x3)) → (R32 (x4)) → J G yX7_leastCut cX7_leastCut 5 (some .int) d S0 6 [(0, 2, x0), (1, 0, x1), (2, 0, x2), (3, 0, x3), (4, 0, x4)] [] S (f_X7_leastCut_b6  x0 x1 x2 x3 x4 S) :=
  jrep_ind (P := fun (r : Int → Int → Int → Int → Int → jSt → Option (Int × jSt)) => ∀ (x0 : Int) (x1 : Int) (x2 : Int) (x3 : Int) (x4 : Int) (S : jSt), (0 ≤ (x0)) → (R32 (x1)) → (R32 (x2)) → (R32 (x3)) → (R32 (x4)) → J G yX7_leastCut cX7_leastCut 5 (some .int) d S0 6 [(0, 2, x0), (1, 0, x1), (2, 0, x2), (3, 0, x3), (4, 0, x4)] [] S (r x0 x1 x2 x3 x4 S)) (by intros; exact j_none) (fun r k => p_f_X7_leastCut_b6B hd0 k) jN
def f_X7_leastCut (a0 : Int) (a1 : Int) (a2 : Int) (S : jSt) : Option (Int × jSt) :=
  f_X7_leastCut_b6 a0 a1 a2 36 0 S
theorem e_X7_leastCut {G : jG} {d : Nat} {S0 : jSt} (hd0 : 3 ≤ d) (a0 : Int) (a1 : Int) (a2 : Int) (S : jSt) (h0 : 0 ≤ (a0)) (h1 : R32 (a1)) (h2 : R32 (a2)) : J G yX7_leastCut cX7_leastCut 5 (some .int) d S0 0 [(0, 2, a0), (1, 0, a1), (2, 0, a2)] [] S (f_X7_leastCut a0 a1 a2 S) := by
  unfold f_X7_leastCut
  refine j_bipush dX7_leastCut_0 (by decide) ?_
  refine j_istore_n (lv' := [(3, 0, 36), (0, 2, a0), (1, 0, a1), (2, 0, a2)]) dX7_leastCut_2 rfl (Nat.le_of_ble_eq_true rfl) rfl ?_
  refine j_iconst dX7_leastCut_3 ?_
  refine j_istore (lv' := [(4, 0, 0), (3, 0, 36), (0, 2, a0), (1, 0, a1), (2, 0, a2)]) dX7_leastCut_4 (Nat.le_of_ble_eq_true rfl) rfl ?_
  refine j_sub [2, 3, 4, 1, 0] rfl ?_
  exact p_f_X7_leastCut_b6 hd0 a0 a1 a2 36 0 S h0 h1 h2 (j_r32 36 rfl) (jZ_R jz0)
theorem c_X7_leastCut {G : jG} (a0 : Int) (a1 : Int) (a2 : Int) (S : jSt) (h0 : 0 ≤ (a0)) (h1 : R32 (a1)) (h2 : R32 (a2)) : CT G yX7_leastCut cX7_leastCut 5 (some .int) 3 ([(2, a0), (0, a1), (0, a2)].map jval) S (f_X7_leastCut a0 a1 a2 S) := ct_of [(2, a0), (0, a1), (0, a2)] (by decide) rfl (Nat.le_of_ble_eq_true rfl) (e_X7_leastCut (Nat.le_refl _) a0 a1 a2 S h0 h1 h2)
-- X7_countBridges
def f_X7_countBridges_b42 (r4 : Int → Int → Int → jSt → Option (Int × jSt)) (r14 : Int → Int → Int → Int → jSt → Option (Int × jSt)) (x0 : Int) (x1 : Int) (x2 : Int) (x3 : Int) (S : jSt) : Option (Int × jSt) :=
  flet (w32 (x3 + 1)) (fun v5 => r14 x0 x1 x2 v5 S)
theorem p_f_X7_countBridges_b42 {G : jG} {d : Nat} {S0 : jSt} (hd0 : 4 ≤ d) {r4 : Int → Int → Int → jSt → Option (Int × jSt)} (k4 : ∀ (x0 : Int) (x1 : Int) (x2 : Int) (S : jSt), (0 ≤ (x0)) → (R32 (x1)) → (R32 (x2)) → J G yX7_countBridges cX7_countBridges 4 (some .int) d S0 4 [(0, 2, x0), (1, 0, x1), (2, 0, x2)] [] S (r4 x0 x1 x2 S)) {r14 : Int → Int → Int → Int → jSt → Option (Int × jSt)} (k14 : ∀ (x0 : Int) (x1 : Int) (x2 : Int) (x3 : Int) (S : jSt), (0 ≤ (x0)) → (R32 (x1)) → (R32 (x2)) → (R32 (x3)) → J G yX7_countBridges cX7_countBridges 4 (some .int) d S0 14 [(0, 2, x0), (1, 0, x1), (2, 0, x2), (3, 0, x3)] [] S (r14 x0 x1 x2 x3 S)) : ∀ (x0 : Int) (x1 : Int) (x2 : Int) (x3 : Int) (S : jSt), (0 ≤ (x0)) → (R32 (x1)) → (R32 (x2)) → (R32 (x3)) → J G yX7_countBridges cX7_countBridges 4 (some .int) d S0 42 [(0, 2, x0), (1, 0, x1), (2, 0, x2), (3, 0, x3)] [] S (f_X7_countBridges_b42 r4 r14 x0 x1 x2 x3 S) := by
  intro x0 x1 x2 x3 S h0 h1 h2 h3
  unfold f_X7_countBridges_b42
  refine j_iincL (q := 3) dX7_countBridges_42 rfl (Nat.le_of_ble_eq_true rfl) (fun v5 hv5 => ?_)
  refine j_lv (lv' := [(3, 0, v5), (0, 2, x0), (1, 0, x1), (2, 0, x2)]) rfl ?_
  refine j_goto (tgt := 14) dX7_countBridges_45 rfl ?_
  refine j_sub [1, 2, 3, 0] rfl ?_
  exact k14 x0 x1 x2 v5 S h0 h1 h2 hv5
def f_X7_countBridges_b14B (r4 : Int → Int → Int → jSt → Option (Int × jSt)) (r14 : Int → Int → Int → Int → jSt → Option (Int × jSt)) (x0 : Int) (x1 : Int) (x2 : Int) (x3 : Int) (S : jSt) : Option (Int × jSt) :=
  if 6 ≤ x3 then flet (w32 (x2 + 1)) (fun v2 => r4 x0 x1 v2 S) else fcallv S x0 7 (f_X7_joins x0 x2 x3 S) (fun v3 S4 => if v3 = 0 then f_X7_countBridges_b42 r4 r14 x0 x1 x2 x3 S4 else fcallv S4 x0 7 (f_X7_leastCut x0 x2 x3 S4) (fun v6 S7 => if v6 = 1 then flet (w32 (x1 + 1)) (fun v8 => f_X7_countBridges_b42 r4 r14 x0 v8 x2 x3 S7) else f_X7_countBridges_b42 r4 r14 x0 x1 x2 x3 S7))
theorem p_f_X7_countBridges_b14B {G : jG} {d : Nat} {S0 : jSt} (hd0 : 4 ≤ d) {r4 : Int → Int → Int → jSt → Option (Int × jSt)} (k4 : ∀ (x0 : Int) (x1 : Int) (x2 : Int) (S : jSt), (0 ≤ (x0)) → (R32 (x1)) → (R32 (x2)) → J G yX7_countBridges cX7_countBridges 4 (some .int) d S0 4 [(0, 2, x0), (1, 0, x1), (2, 0, x2)] [] S (r4 x0 x1 x2 S)) {r14 : Int → Int → Int → Int → jSt → Option (Int × jSt)} (k14 : ∀ (x0 : Int) (x1 : Int) (x2 : Int) (x3 : Int) (S : jSt), (0 ≤ (x0)) → (R32 (x1)) → (R32 (x2)) → (R32 (x3)) → J G yX7_countBridges cX7_countBridges 4 (some .int) d S0 14 [(0, 2, x0), (1, 0, x1), (2, 0, x2), (3, 0, x3)] [] S (r14 x0 x1 x2 x3 S)) : ∀ (x0 : Int) (x1 : Int) (x2 : Int) (x3 : Int) (S : jSt), (0 ≤ (x0)) → (R32 (x1)) → (R32 (x2)) → (R32 (x3)) → J G yX7_countBridges cX7_countBridges 4 (some .int) d S0 14 [(0, 2, x0), (1, 0, x1), (2, 0, x2), (3, 0, x3)] [] S (f_X7_countBridges_b14B r4 r14 x0 x1 x2 x3 S) := by
  intro x0 x1 x2 x3 S h0 h1 h2 h3
  unfold f_X7_countBridges_b14B
  refine j_iload_n 3 dX7_countBridges_14 rfl rfl ?_
  refine j_bipush dX7_countBridges_15 (by decide) ?_
  refine j_icmp_ge (tgt := 48) h3 (j_r32 6 rfl) dX7_countBridges_17 rfl (fun _ => ?_) (fun _ => ?_)
  · refine j_iincL (q := 2) dX7_countBridges_48 rfl (Nat.le_of_ble_eq_true rfl) (fun v2 hv2 => ?_)
    refine j_lv (lv' := [(2, 0, v2), (0, 2, x0), (1, 0, x1), (3, 0, x3)]) rfl ?_
    refine j_goto (tgt := 4) dX7_countBridges_51 rfl ?_
    refine j_sub [1, 2, 0] rfl ?_
    exact k4 x0 x1 v2 S h0 h1 hv2
  · refine j_aload_n 0 dX7_countBridges_20 rfl rfl ?_
    refine j_iload_n 2 dX7_countBridges_21 rfl rfl ?_
    refine j_iload_n 3 dX7_countBridges_22 rfl rfl ?_
    refine j_callV (ci := 7) (As := [(0, x2), (0, x3)]) (st := []) kc_X7_joins (c_X7_joins x0 x2 x3 S h0 h2 h3) rfl lm_X7_33 ki_X7_joins ke_X7_joins rfl (Nat.le_of_ble_eq_true rfl) (Nat.le_trans (m := 4) (Nat.le_of_ble_eq_true rfl) hd0) dX7_countBridges_23 (fun (v3 : Int) (S4 : jSt) (hv3 : (v3) = 0 ∨ (v3) = 1) => ?_)
    refine j_if_eq (tgt := 42) (jZ_R hv3) dX7_countBridges_26 rfl (fun _ => ?_) (fun _ => ?_)
    · exact p_f_X7_countBridges_b42 hd0 k4 k14 x0 x1 x2 x3 S4 h0 h1 h2 h3
    · refine j_aload_n 0 dX7_countBridges_29 rfl rfl ?_
      refine j_iload_n 2 dX7_countBridges_30 rfl rfl ?_
      refine j_iload_n 3 dX7_countBridges_31 rfl rfl ?_
      refine j_callV (ci := 7) (As := [(0, x2), (0, x3)]) (st := []) kc_X7_leastCut (c_X7_leastCut x0 x2 x3 S4 h0 h2 h3) rfl lm_X7_37 ki_X7_leastCut ke_X7_leastCut rfl (Nat.le_of_ble_eq_true rfl) (Nat.le_trans (m := 4) (Nat.le_of_ble_eq_true rfl) hd0) dX7_countBridges_32 (fun (v6 : Int) (S7 : jSt) (hv6 : R32 (v6)) => ?_)
      refine j_iconst dX7_countBridges_35 ?_
      refine j_icmp_ne (tgt := 42) hv6 (jZ_R jz1) dX7_countBridges_36 rfl (fun _ => ?_) (fun _ => ?_)
      · exact p_f_X7_countBridges_b42 hd0 k4 k14 x0 x1 x2 x3 S7 h0 h1 h2 h3
      · refine j_iincL (q := 1) dX7_countBridges_39 rfl (Nat.le_of_ble_eq_true rfl) (fun v8 hv8 => ?_)
        refine j_lv (lv' := [(1, 0, v8), (0, 2, x0), (2, 0, x2), (3, 0, x3)]) rfl ?_
        refine j_sub [1, 0, 2, 3] rfl ?_
        exact p_f_X7_countBridges_b42 hd0 k4 k14 x0 v8 x2 x3 S7 h0 hv8 h2 h3
def f_X7_countBridges_b14 (r4 : Int → Int → Int → jSt → Option (Int × jSt)) : Int → Int → Int → Int → jSt → Option (Int × jSt) := jrep (β := Int → Int → Int → Int → jSt → Option (Int × jSt)) (fun _ _ _ _ _ => none) (fun r => f_X7_countBridges_b14B r4 r) jN
theorem p_f_X7_countBridges_b14 {G : jG} {d : Nat} {S0 : jSt} (hd0 : 4 ≤ d) {r4 : Int → Int → Int → jSt → Option (Int × jSt)} (k4 : ∀ (x0 : Int) (x1 : Int) (x2 : Int) (S : jSt), (0 ≤ (x0)) → (R32 (x1)) → (R32 (x2)) → J G yX7_countBridges cX7_countBridges 4 (some .int) d S0 4 [(0, 2, x0), (1, 0, x1), (2, 0, x2)] [] S (r4 x0 x1 x2 S)) : ∀ (x0 : Int) (x1 : Int) (x2 : Int) (x3 : Int) (S : jSt), (0 ≤ (x0)) → (R32 (x1)) → (R32 (x2)) → (R32 (x3)) → J G yX7_countBridges cX7_countBridges 4 (some .int) d S0 14 [(0, 2, x0), (1, 0, x1), (2, 0, x2), (3, 0, x3)] [] S (f_X7_countBridges_b14 r4 x0 x1 x2 x3 S) :=
  jrep_ind (P := fun (r : Int → Int → Int → Int → jSt → Option (Int × jSt)) => ∀ (x0 : Int) (x1 : Int) (x2 : Int) (x3 : Int) (S : jSt), (0 ≤ (x0)) → (R32 (x1)) → (R32 (x2)) → (R32 (x3)) → J G yX7_countBridges cX7_countBridges 4 (some .int) d S0 14 [(0, 2, x0), (1, 0, x1), (2, 0, x2), (3, 0, x3)] [] S (r x0 x1 x2 x3 S)) (by intros; exact j_none) (fun r k => p_f_X7_countBridges_b14B hd0 k4 k) jN
def f_X7_countBridges_b4B (r4 : Int → Int → Int → jSt → Option (Int × jSt)) (x0 : Int) (x1 : Int) (x2 : Int) (S : jSt) : Option (Int × jSt) :=
  if 6 ≤ x2 then some (x1, S) else flet (w32 (x2 + 1)) (fun v1 => f_X7_countBridges_b14 r4 x0 x1 x2 v1 S)
theorem p_f_X7_countBridges_b4B {G : jG} {d : Nat} {S0 : jSt} (hd0 : 4 ≤ d) {r4 : Int → Int → Int → jSt → Option (Int × jSt)} (k4 : ∀ (x0 : Int) (x1 : Int) (x2 : Int) (S : jSt), (0 ≤ (x0)) → (R32 (x1)) → (R32 (x2)) → J G yX7_countBridges cX7_countBridges 4 (some .int) d S0 4 [(0, 2, x0), (1, 0, x1), (2, 0, x2)] [] S (r4 x0 x1 x2 S)) : ∀ (x0 : Int) (x1 : Int) (x2 : Int) (S : jSt), (0 ≤ (x0)) → (R32 (x1)) → (R32 (x2)) → J G yX7_countBridges cX7_countBridges 4 (some .int) d S0 4 [(0, 2, x0), (1, 0, x1), (2, 0, x2)] [] S (f_X7_countBridges_b4B r4 x0 x1 x2 S) := by
  intro x0 x1 x2 S h0 h1 h2
  unfold f_X7_countBridges_b4B
  refine j_iload_n 2 dX7_countBridges_4 rfl rfl ?_
  refine j_bipush dX7_countBridges_5 (by decide) ?_
  refine j_icmp_ge (tgt := 54) h2 (j_r32 6 rfl) dX7_countBridges_7 rfl (fun _ => ?_) (fun _ => ?_)
  · refine j_iload_n 1 dX7_countBridges_54 rfl rfl ?_
    exact j_ireturn h1 dX7_countBridges_55
  · refine j_iload_n 2 dX7_countBridges_10 rfl rfl ?_
    refine j_iconst dX7_countBridges_11 ?_
    refine j_iadd dX7_countBridges_12 ?_
    refine j_leti (w32_R _) (fun v1 hv1 => ?_)
    refine j_istore_n (lv' := [(3, 0, v1), (0, 2, x0), (1, 0, x1), (2, 0, x2)]) dX7_countBridges_13 rfl (Nat.le_of_ble_eq_true rfl) rfl ?_
    refine j_sub [1, 2, 3, 0] rfl ?_
    exact p_f_X7_countBridges_b14 hd0 k4 x0 x1 x2 v1 S h0 h1 h2 hv1
def f_X7_countBridges_b4 : Int → Int → Int → jSt → Option (Int × jSt) := jrep (β := Int → Int → Int → jSt → Option (Int × jSt)) (fun _ _ _ _ => none) (fun r => f_X7_countBridges_b4B r) jN
theorem p_f_X7_countBridges_b4 {G : jG} {d : Nat} {S0 : jSt} (hd0 : 4 ≤ d) : ∀ (x0 : Int) (x1 : Int) (x2 : Int) (S : jSt), (0 ≤ (x0)) → (R32 (x1)) → (R32 (x2)) → J G yX7_countBridges cX7_countBridges 4 (some .int) d S0 4 [(0, 2, x0), (1, 0, x1), (2, 0, x2)] [] S (f_X7_countBridges_b4  x0 x1 x2 S) :=
  jrep_ind (P := fun (r : Int → Int → Int → jSt → Option (Int × jSt)) => ∀ (x0 : Int) (x1 : Int) (x2 : Int) (S : jSt), (0 ≤ (x0)) → (R32 (x1)) → (R32 (x2)) → J G yX7_countBridges cX7_countBridges 4 (some .int) d S0 4 [(0, 2, x0), (1, 0, x1), (2, 0, x2)] [] S (r x0 x1 x2 S)) (by intros; exact j_none) (fun r k => p_f_X7_countBridges_b4B hd0 k) jN
def f_X7_countBridges (a0 : Int) (S : jSt) : Option (Int × jSt) :=
  f_X7_countBridges_b4 a0 0 0 S
theorem e_X7_countBridges {G : jG} {d : Nat} {S0 : jSt} (hd0 : 4 ≤ d) (a0 : Int) (S : jSt) (h0 : 0 ≤ (a0)) : J G yX7_countBridges cX7_countBridges 4 (some .int) d S0 0 [(0, 2, a0)] [] S (f_X7_countBridges a0 S) := by
  unfold f_X7_countBridges
  refine j_iconst dX7_countBridges_0 ?_
  refine j_istore_n (lv' := [(1, 0, 0), (0, 2, a0)]) dX7_countBridges_1 rfl (Nat.le_of_ble_eq_true rfl) rfl ?_
  refine j_iconst dX7_countBridges_2 ?_
  refine j_istore_n (lv' := [(2, 0, 0), (1, 0, 0), (0, 2, a0)]) dX7_countBridges_3 rfl (Nat.le_of_ble_eq_true rfl) rfl ?_
  refine j_sub [2, 1, 0] rfl ?_
  exact p_f_X7_countBridges_b4 hd0 a0 0 0 S h0 (jZ_R jz0) (jZ_R jz0)
theorem c_X7_countBridges {G : jG} (a0 : Int) (S : jSt) (h0 : 0 ≤ (a0)) : CT G yX7_countBridges cX7_countBridges 4 (some .int) 4 ([(2, a0)].map jval) S (f_X7_countBridges a0 S) := ct_of [(2, a0)] (by decide) rfl (Nat.le_of_ble_eq_true rfl) (e_X7_countBridges (Nat.le_refl _) a0 S h0)
-- X11_bridges
def f_X11_bridges (a0 : Int) (S : jSt) : Option (Int × jSt) :=
  fgetr S a0 11 0 (fun v1 => fgetr S v1 10 14 (fun v2 => fcallv S v2 7 (f_X7_countBridges v2 S) (fun v3 S4 => some (v3, S4))))
theorem e_X11_bridges {G : jG} {d : Nat} {S0 : jSt} (hd0 : 5 ≤ d) (a0 : Int) (S : jSt) (h0 : 0 ≤ (a0)) : J G yX11_bridges cX11_bridges 1 (some .int) d S0 0 [(0, 2, a0)] [] S (f_X11_bridges a0 S) := by
  unfold f_X11_bridges
  refine j_aload_n 0 dX11_bridges_0 rfl rfl ?_
  refine j_getr (ci := 11) (k := 0) rfl in_X11 (Nat.le_of_ble_eq_true rfl) rfl rfl fl_X11_10 dX11_bridges_1 (fun (v1 : Int) (hv1 : 0 ≤ v1) => ?_)
  refine j_getr (ci := 10) (k := 14) rfl in_X10 (Nat.le_of_ble_eq_true rfl) rfl rfl fl_X11_338 dX11_bridges_4 (fun (v2 : Int) (hv2 : 0 ≤ v2) => ?_)
  refine j_callV (ci := 7) (As := []) (st := []) kc_X7_countBridges (c_X7_countBridges v2 S hv2) rfl lm_X11_356 ki_X7_countBridges ke_X7_countBridges rfl (Nat.le_of_ble_eq_true rfl) (Nat.le_trans (m := 5) (Nat.le_of_ble_eq_true rfl) hd0) dX11_bridges_7 (fun (v3 : Int) (S4 : jSt) (hv3 : R32 (v3)) => ?_)
  exact j_ireturn hv3 dX11_bridges_10
theorem c_X11_bridges {G : jG} (a0 : Int) (S : jSt) (h0 : 0 ≤ (a0)) : CT G yX11_bridges cX11_bridges 1 (some .int) 5 ([(2, a0)].map jval) S (f_X11_bridges a0 S) := ct_of [(2, a0)] (by decide) rfl (Nat.le_of_ble_eq_true rfl) (e_X11_bridges (Nat.le_refl _) a0 S h0)
-- X11_bundle
def f_X11_bundle_b52 (S : jSt) : Option (Int × jSt) :=
  some ((-2), S)
theorem p_f_X11_bundle_b52 {G : jG} {d : Nat} {S0 : jSt} (hd0 : 3 ≤ d) : ∀ (S : jSt), J G yX11_bundle cX11_bundle 4 (some .int) d S0 52 [] [] S (f_X11_bundle_b52   S) := by
  intro S
  unfold f_X11_bundle_b52
  refine j_bipush dX11_bundle_52 (by decide) ?_
  exact j_ireturn (j_r32 (-2) rfl) dX11_bundle_54
def f_X11_bundle (a0 : Int) (a1 : Int) (a2 : Int) (a3 : Int) (S : jSt) : Option (Int × jSt) :=
  if a1 = (-1) then fgetr S a0 11 0 (fun v31 => fput S v31 10 7 0 (fun S32 => some (0, S32))) else fgetr S a0 11 0 (fun v1 => fcallv S v1 10 (f_X10_hasBidder v1 a1 S) (fun v2 S3 => if v2 = 0 then f_X11_bundle_b52 S3 else if a2 = 0 then f_X11_bundle_b52 S3 else fgetr S3 a0 11 0 (fun v4 => fcallv S3 v4 10 (f_X10_hasLots v4 a2 S3) (fun v5 S6 => if v5 = 0 then f_X11_bundle_b52 S6 else fcall (f_X11_within a3 0 9999 S6) (fun v7 S8 => if v7 = 0 then f_X11_bundle_b52 S8 else fgetr S8 a0 11 0 (fun v9 => fget S8 v9 10 7 (fun v10 => if v10 < 8 then fgetr S8 a0 11 0 (fun v11 => fgetr S8 v11 10 8 (fun v12 => fgetr S8 a0 11 0 (fun v13 => fget S8 v13 10 7 (fun v14 => fast S8 v12 v14 1 a1 (fun S15 => fgetr S15 a0 11 0 (fun v16 => fgetr S15 v16 10 9 (fun v17 => fgetr S15 a0 11 0 (fun v18 => fget S15 v18 10 7 (fun v19 => fast S15 v17 v19 1 a2 (fun S20 => fgetr S20 a0 11 0 (fun v21 => fgetr S20 v21 10 10 (fun v22 => fgetr S20 a0 11 0 (fun v23 => fget S20 v23 10 7 (fun v24 => fast S20 v22 v24 1 a3 (fun S25 => fgetr S25 a0 11 0 (fun v26 => fget S25 v26 10 7 (fun v27 => fput S25 v26 10 7 (w32 (v27 + 1)) (fun S28 => fgetr S28 a0 11 0 (fun v29 => fget S28 v29 10 7 (fun v30 => some (v30, S28))))))))))))))))))))) else some ((-2), S8))))))))
theorem e_X11_bundle {G : jG} {d : Nat} {S0 : jSt} (hd0 : 3 ≤ d) (a0 : Int) (a1 : Int) (a2 : Int) (a3 : Int) (S : jSt) (h0 : 0 ≤ (a0)) (h1 : R32 (a1)) (h2 : R32 (a2)) (h3 : R32 (a3)) : J G yX11_bundle cX11_bundle 4 (some .int) d S0 0 [(0, 2, a0), (1, 0, a1), (2, 0, a2), (3, 0, a3)] [] S (f_X11_bundle a0 a1 a2 a3 S) := by
  unfold f_X11_bundle
  refine j_iload_n 1 dX11_bundle_0 rfl rfl ?_
  refine j_iconst dX11_bundle_1 ?_
  refine j_icmp_ne (tgt := 15) h1 (j_r32 (-1) rfl) dX11_bundle_2 rfl (fun _ => ?_) (fun _ => ?_)
  · refine j_aload_n 0 dX11_bundle_15 rfl rfl ?_
    refine j_getr (ci := 11) (k := 0) rfl in_X11 (Nat.le_of_ble_eq_true rfl) rfl rfl fl_X11_10 dX11_bundle_16 (fun (v1 : Int) (hv1 : 0 ≤ v1) => ?_)
    refine j_iload_n 1 dX11_bundle_19 rfl rfl ?_
    refine j_callV (ci := 10) (As := [(0, a1)]) (st := []) kc_X10_hasBidder (c_X10_hasBidder v1 a1 S hv1 h1) rfl lm_X11_107 ki_X10_hasBidder ke_X10_hasBidder rfl (Nat.le_of_ble_eq_true rfl) (Nat.le_trans (m := 3) (Nat.le_of_ble_eq_true rfl) hd0) dX11_bundle_20 (fun (v2 : Int) (S3 : jSt) (hv2 : (v2) = 0 ∨ (v2) = 1) => ?_)
    refine j_if_eq (tgt := 52) (jZ_R hv2) dX11_bundle_23 rfl (fun _ => ?_) (fun _ => ?_)
    · refine j_sub [] rfl ?_
      exact p_f_X11_bundle_b52 hd0 S3
    · refine j_iload_n 2 dX11_bundle_26 rfl rfl ?_
      refine j_if_eq (tgt := 52) h2 dX11_bundle_27 rfl (fun _ => ?_) (fun _ => ?_)
      · refine j_sub [] rfl ?_
        exact p_f_X11_bundle_b52 hd0 S3
      · refine j_aload_n 0 dX11_bundle_30 rfl rfl ?_
        refine j_getr (ci := 11) (k := 0) rfl in_X11 (Nat.le_of_ble_eq_true rfl) rfl rfl fl_X11_10 dX11_bundle_31 (fun (v4 : Int) (hv4 : 0 ≤ v4) => ?_)
        refine j_iload_n 2 dX11_bundle_34 rfl rfl ?_
        refine j_callV (ci := 10) (As := [(0, a2)]) (st := []) kc_X10_hasLots (c_X10_hasLots v4 a2 S3 hv4 h2) rfl lm_X11_302 ki_X10_hasLots ke_X10_hasLots rfl (Nat.le_of_ble_eq_true rfl) (Nat.le_trans (m := 3) (Nat.le_of_ble_eq_true rfl) hd0) dX11_bundle_35 (fun (v5 : Int) (S6 : jSt) (hv5 : (v5) = 0 ∨ (v5) = 1) => ?_)
        refine j_if_eq (tgt := 52) (jZ_R hv5) dX11_bundle_38 rfl (fun _ => ?_) (fun _ => ?_)
        · refine j_sub [] rfl ?_
          exact p_f_X11_bundle_b52 hd0 S6
        · refine j_iload_n 3 dX11_bundle_41 rfl rfl ?_
          refine j_iconst dX11_bundle_42 ?_
          refine j_sipush dX11_bundle_43 (by decide) ?_
          refine j_callS (As := [(0, a3), (0, 0), (0, 9999)]) (st := []) kc_X11_within (c_X11_within a3 0 9999 S6 h3 (jZ_R jz0) (j_r32 9999 rfl)) lm_X11_76 ks_X11_within rfl (Nat.le_of_ble_eq_true rfl) (Nat.le_trans (m := 3) (Nat.le_of_ble_eq_true rfl) hd0) dX11_bundle_46 (fun (v7 : Int) (S8 : jSt) (hv7 : (v7) = 0 ∨ (v7) = 1) => ?_)
          refine j_if_ne (tgt := 55) (jZ_R hv7) dX11_bundle_49 rfl (fun _ => ?_) (fun _ => ?_)
          · refine j_aload_n 0 dX11_bundle_55 rfl rfl ?_
            refine j_getr (ci := 11) (k := 0) rfl in_X11 (Nat.le_of_ble_eq_true rfl) rfl rfl fl_X11_10 dX11_bundle_56 (fun (v9 : Int) (hv9 : 0 ≤ v9) => ?_)
            refine j_get (ci := 10) (k := 7) (t := 0) rfl in_X10 (Nat.le_of_ble_eq_true rfl) rfl rfl fl_X11_314 dX11_bundle_59 (fun (v10 : Int) (hv10 : R32 (v10)) => ?_)
            refine j_bipush dX11_bundle_62 (by decide) ?_
            refine j_icmp_lt (tgt := 70) hv10 (j_r32 8 rfl) dX11_bundle_64 rfl (fun _ => ?_) (fun _ => ?_)
            · refine j_aload_n 0 dX11_bundle_70 rfl rfl ?_
              refine j_getr (ci := 11) (k := 0) rfl in_X11 (Nat.le_of_ble_eq_true rfl) rfl rfl fl_X11_10 dX11_bundle_71 (fun (v11 : Int) (hv11 : 0 ≤ v11) => ?_)
              refine j_getr (ci := 10) (k := 8) rfl in_X10 (Nat.le_of_ble_eq_true rfl) rfl rfl fl_X11_317 dX11_bundle_74 (fun (v12 : Int) (hv12 : 0 ≤ v12) => ?_)
              refine j_aload_n 0 dX11_bundle_77 rfl rfl ?_
              refine j_getr (ci := 11) (k := 0) rfl in_X11 (Nat.le_of_ble_eq_true rfl) rfl rfl fl_X11_10 dX11_bundle_78 (fun (v13 : Int) (hv13 : 0 ≤ v13) => ?_)
              refine j_get (ci := 10) (k := 7) (t := 0) rfl in_X10 (Nat.le_of_ble_eq_true rfl) rfl rfl fl_X11_314 dX11_bundle_81 (fun (v14 : Int) (hv14 : R32 (v14)) => ?_)
              refine j_iload_n 1 dX11_bundle_84 rfl rfl ?_
              refine j_iastore hv14 h1 dX11_bundle_85 (fun S15 => ?_)
              refine j_aload_n 0 dX11_bundle_86 rfl rfl ?_
              refine j_getr (ci := 11) (k := 0) rfl in_X11 (Nat.le_of_ble_eq_true rfl) rfl rfl fl_X11_10 dX11_bundle_87 (fun (v16 : Int) (hv16 : 0 ≤ v16) => ?_)
              refine j_getr (ci := 10) (k := 9) rfl in_X10 (Nat.le_of_ble_eq_true rfl) rfl rfl fl_X11_320 dX11_bundle_90 (fun (v17 : Int) (hv17 : 0 ≤ v17) => ?_)
              refine j_aload_n 0 dX11_bundle_93 rfl rfl ?_
              refine j_getr (ci := 11) (k := 0) rfl in_X11 (Nat.le_of_ble_eq_true rfl) rfl rfl fl_X11_10 dX11_bundle_94 (fun (v18 : Int) (hv18 : 0 ≤ v18) => ?_)
              refine j_get (ci := 10) (k := 7) (t := 0) rfl in_X10 (Nat.le_of_ble_eq_true rfl) rfl rfl fl_X11_314 dX11_bundle_97 (fun (v19 : Int) (hv19 : R32 (v19)) => ?_)
              refine j_iload_n 2 dX11_bundle_100 rfl rfl ?_
              refine j_iastore hv19 h2 dX11_bundle_101 (fun S20 => ?_)
              refine j_aload_n 0 dX11_bundle_102 rfl rfl ?_
              refine j_getr (ci := 11) (k := 0) rfl in_X11 (Nat.le_of_ble_eq_true rfl) rfl rfl fl_X11_10 dX11_bundle_103 (fun (v21 : Int) (hv21 : 0 ≤ v21) => ?_)
              refine j_getr (ci := 10) (k := 10) rfl in_X10 (Nat.le_of_ble_eq_true rfl) rfl rfl fl_X11_323 dX11_bundle_106 (fun (v22 : Int) (hv22 : 0 ≤ v22) => ?_)
              refine j_aload_n 0 dX11_bundle_109 rfl rfl ?_
              refine j_getr (ci := 11) (k := 0) rfl in_X11 (Nat.le_of_ble_eq_true rfl) rfl rfl fl_X11_10 dX11_bundle_110 (fun (v23 : Int) (hv23 : 0 ≤ v23) => ?_)
              refine j_get (ci := 10) (k := 7) (t := 0) rfl in_X10 (Nat.le_of_ble_eq_true rfl) rfl rfl fl_X11_314 dX11_bundle_113 (fun (v24 : Int) (hv24 : R32 (v24)) => ?_)
              refine j_iload_n 3 dX11_bundle_116 rfl rfl ?_
              refine j_iastore hv24 h3 dX11_bundle_117 (fun S25 => ?_)
              refine j_aload_n 0 dX11_bundle_118 rfl rfl ?_
              refine j_getr (ci := 11) (k := 0) rfl in_X11 (Nat.le_of_ble_eq_true rfl) rfl rfl fl_X11_10 dX11_bundle_119 (fun (v26 : Int) (hv26 : 0 ≤ v26) => ?_)
              refine j_dup dX11_bundle_122 (fun h => nomatch h) ?_
              refine j_get (ci := 10) (k := 7) (t := 0) rfl in_X10 (Nat.le_of_ble_eq_true rfl) rfl rfl fl_X11_314 dX11_bundle_123 (fun (v27 : Int) (hv27 : R32 (v27)) => ?_)
              refine j_iconst dX11_bundle_126 ?_
              refine j_iadd dX11_bundle_127 ?_
              refine j_puti (ci := 10) (k := 7) (ty0 := tyX10) rfl in_X10 (Nat.le_of_ble_eq_true rfl) rfl tyX10_ok nmX10 rfl rfl (by decide +kernel) (w32_R _) fl_X11_314 dX11_bundle_128 (fun S28 => ?_)
              refine j_aload_n 0 dX11_bundle_131 rfl rfl ?_
              refine j_getr (ci := 11) (k := 0) rfl in_X11 (Nat.le_of_ble_eq_true rfl) rfl rfl fl_X11_10 dX11_bundle_132 (fun (v29 : Int) (hv29 : 0 ≤ v29) => ?_)
              refine j_get (ci := 10) (k := 7) (t := 0) rfl in_X10 (Nat.le_of_ble_eq_true rfl) rfl rfl fl_X11_314 dX11_bundle_135 (fun (v30 : Int) (hv30 : R32 (v30)) => ?_)
              exact j_ireturn hv30 dX11_bundle_138
            · refine j_bipush dX11_bundle_67 (by decide) ?_
              exact j_ireturn (j_r32 (-2) rfl) dX11_bundle_69
          · refine j_sub [] rfl ?_
            exact p_f_X11_bundle_b52 hd0 S8
  · refine j_aload_n 0 dX11_bundle_5 rfl rfl ?_
    refine j_getr (ci := 11) (k := 0) rfl in_X11 (Nat.le_of_ble_eq_true rfl) rfl rfl fl_X11_10 dX11_bundle_6 (fun (v31 : Int) (hv31 : 0 ≤ v31) => ?_)
    refine j_iconst dX11_bundle_9 ?_
    refine j_puti (ci := 10) (k := 7) (ty0 := tyX10) rfl in_X10 (Nat.le_of_ble_eq_true rfl) rfl tyX10_ok nmX10 rfl rfl (by decide +kernel) (jZ_R jz0) fl_X11_314 dX11_bundle_10 (fun S32 => ?_)
    refine j_iconst dX11_bundle_13 ?_
    exact j_ireturn (jZ_R jz0) dX11_bundle_14
theorem c_X11_bundle {G : jG} (a0 : Int) (a1 : Int) (a2 : Int) (a3 : Int) (S : jSt) (h0 : 0 ≤ (a0)) (h1 : R32 (a1)) (h2 : R32 (a2)) (h3 : R32 (a3)) : CT G yX11_bundle cX11_bundle 4 (some .int) 3 ([(2, a0), (0, a1), (0, a2), (0, a3)].map jval) S (f_X11_bundle a0 a1 a2 a3 S) := ct_of [(2, a0), (0, a1), (0, a2), (0, a3)] (by decide) rfl (Nat.le_of_ble_eq_true rfl) (e_X11_bundle (Nat.le_refl _) a0 a1 a2 a3 S h0 h1 h2 h3)
