-- X5_canBurn
def f_X5_canBurn_b26 (x0 : Int) (S : jSt) : Option (Int × jSt) :=
  some (x0, S)
theorem p_f_X5_canBurn_b26 {G : jG} {d : Nat} {S0 : jSt} (hd0 : 3 ≤ d) : ∀ (x0 : Int) (S : jSt), ((x0) = 0 ∨ (x0) = 1) → J G yX5_canBurn cX5_canBurn 3 (some .boolean) d S0 26 [] [(0, x0)] S (f_X5_canBurn_b26  x0 S) := by
  intro x0 S h0
  unfold f_X5_canBurn_b26
  exact j_zreturn h0 dX5_canBurn_26
def f_X5_canBurn_b25 (S : jSt) : Option (Int × jSt) :=
  f_X5_canBurn_b26 0 S
theorem p_f_X5_canBurn_b25 {G : jG} {d : Nat} {S0 : jSt} (hd0 : 3 ≤ d) : ∀ (S : jSt), J G yX5_canBurn cX5_canBurn 3 (some .boolean) d S0 25 [] [] S (f_X5_canBurn_b25   S) := by
  intro S
  unfold f_X5_canBurn_b25
  refine j_iconst dX5_canBurn_25 ?_
  exact p_f_X5_canBurn_b26 hd0 0 S jz0
def f_X5_canBurn (a0 : Int) (a1 : Int) (a2 : Int) (S : jSt) : Option (Int × jSt) :=
  fgetr S a0 5 2 (fun v1 => fcallv S v1 10 (f_X10_hasLot v1 a2 S) (fun v2 S3 => if v2 = 0 then f_X5_canBurn_b25 S3 else fgetr S3 a1 1 0 (fun v4 => fald S3 v4 a2 1 (fun v5 => if 2 ≤ v5 then f_X5_canBurn_b25 S3 else f_X5_canBurn_b26 1 S3))))
theorem e_X5_canBurn {G : jG} {d : Nat} {S0 : jSt} (hd0 : 3 ≤ d) (a0 : Int) (a1 : Int) (a2 : Int) (S : jSt) (h0 : 0 ≤ (a0)) (h1 : 0 ≤ (a1)) (h2 : R32 (a2)) : J G yX5_canBurn cX5_canBurn 3 (some .boolean) d S0 0 [(0, 2, a0), (1, 2, a1), (2, 0, a2)] [] S (f_X5_canBurn a0 a1 a2 S) := by
  unfold f_X5_canBurn
  refine j_aload_n 0 dX5_canBurn_0 rfl rfl ?_
  refine j_getr (ci := 5) (k := 2) rfl in_X5 (Nat.le_of_ble_eq_true rfl) rfl rfl fl_X5_18 dX5_canBurn_1 (fun (v1 : Int) (hv1 : 0 ≤ v1) => ?_)
  refine j_iload_n 2 dX5_canBurn_4 rfl rfl ?_
  refine j_callV (ci := 10) (As := [(0, a2)]) (st := []) kc_X10_hasLot (c_X10_hasLot v1 a2 S hv1 h2) rfl lm_X5_100 ki_X10_hasLot ke_X10_hasLot rfl (Nat.le_of_ble_eq_true rfl) (Nat.le_trans (m := 3) (Nat.le_of_ble_eq_true rfl) hd0) dX5_canBurn_5 (fun (v2 : Int) (S3 : jSt) (hv2 : (v2) = 0 ∨ (v2) = 1) => ?_)
  refine j_if_eq (tgt := 25) (jZ_R hv2) dX5_canBurn_8 rfl (fun _ => ?_) (fun _ => ?_)
  · refine j_sub [] rfl ?_
    exact p_f_X5_canBurn_b25 hd0 S3
  · refine j_aload_n 1 dX5_canBurn_11 rfl rfl ?_
    refine j_getr (ci := 1) (k := 0) rfl in_X1 (Nat.le_of_ble_eq_true rfl) rfl rfl fl_X5_93 dX5_canBurn_12 (fun (v4 : Int) (hv4 : 0 ≤ v4) => ?_)
    refine j_iload_n 2 dX5_canBurn_15 rfl rfl ?_
    refine j_iaload h2 dX5_canBurn_16 (fun (v5 : Int) (hv5 : R32 (v5)) => ?_)
    refine j_iconst dX5_canBurn_17 ?_
    refine j_icmp_ge (tgt := 25) hv5 (j_r32 2 rfl) dX5_canBurn_18 rfl (fun _ => ?_) (fun _ => ?_)
    · refine j_sub [] rfl ?_
      exact p_f_X5_canBurn_b25 hd0 S3
    · refine j_iconst dX5_canBurn_21 ?_
      refine j_goto (tgt := 26) dX5_canBurn_22 rfl ?_
      refine j_sub [] rfl ?_
      exact p_f_X5_canBurn_b26 hd0 1 S3 jz1
theorem c_X5_canBurn {G : jG} (a0 : Int) (a1 : Int) (a2 : Int) (S : jSt) (h0 : 0 ≤ (a0)) (h1 : 0 ≤ (a1)) (h2 : R32 (a2)) : CT G yX5_canBurn cX5_canBurn 3 (some .boolean) 3 ([(2, a0), (2, a1), (0, a2)].map jval) S (f_X5_canBurn a0 a1 a2 S) := ct_of [(2, a0), (2, a1), (0, a2)] (by decide) rfl (Nat.le_of_ble_eq_true rfl) (e_X5_canBurn (Nat.le_refl _) a0 a1 a2 S h0 h1 h2)
-- X8_push
def f_X8_push_b56 (S : jSt) : Option (Int × jSt) :=
  some (0, S)
theorem p_f_X8_push_b56 {G : jG} {d : Nat} {S0 : jSt} (hd0 : 2 ≤ d) : ∀ (S : jSt), J G yX8_push cX8_push 2 none d S0 56 [] [] S (f_X8_push_b56   S) := by
  intro S
  unfold f_X8_push_b56
  exact j_return dX8_push_56
def f_X8_push (a0 : Int) (a1 : Int) (S : jSt) : Option (Int × jSt) :=
  fgetr S a0 8 0 (fun v1 => fget S a0 8 1 (fun v2 => fget S a0 8 2 (fun v3 => if 30 = 0 then none else fald S v1 (irem32 (w32 (v2 + v3)) 30) 4 (fun v4 => if 0 ≤ v4 then fcallv S v4 1 (f_X1_copyFrom v4 a1 S) (fun v5 S6 => fget S6 a0 8 2 (fun v7 => if 30 ≤ v7 then fget S6 a0 8 1 (fun v8 => if 30 = 0 then none else fput S6 a0 8 1 (irem32 (w32 (v8 + 1)) 30) (fun S9 => f_X8_push_b56 S9)) else fget S6 a0 8 2 (fun v10 => fput S6 a0 8 2 (w32 (v10 + 1)) (fun S11 => f_X8_push_b56 S11)))) else none))))
theorem e_X8_push {G : jG} {d : Nat} {S0 : jSt} (hd0 : 2 ≤ d) (a0 : Int) (a1 : Int) (S : jSt) (h0 : 0 ≤ (a0)) (h1 : 0 ≤ (a1)) : J G yX8_push cX8_push 2 none d S0 0 [(0, 2, a0), (1, 2, a1)] [] S (f_X8_push a0 a1 S) := by
  unfold f_X8_push
  refine j_aload_n 0 dX8_push_0 rfl rfl ?_
  refine j_getr (ci := 8) (k := 0) rfl in_X8 (Nat.le_of_ble_eq_true rfl) rfl rfl fl_X8_11 dX8_push_1 (fun (v1 : Int) (hv1 : 0 ≤ v1) => ?_)
  refine j_aload_n 0 dX8_push_4 rfl rfl ?_
  refine j_get (ci := 8) (k := 1) (t := 0) rfl in_X8 (Nat.le_of_ble_eq_true rfl) rfl rfl fl_X8_18 dX8_push_5 (fun (v2 : Int) (hv2 : R32 (v2)) => ?_)
  refine j_aload_n 0 dX8_push_8 rfl rfl ?_
  refine j_get (ci := 8) (k := 2) (t := 0) rfl in_X8 (Nat.le_of_ble_eq_true rfl) rfl rfl fl_X8_22 dX8_push_9 (fun (v3 : Int) (hv3 : R32 (v3)) => ?_)
  refine j_iadd dX8_push_12 ?_
  refine j_bipush dX8_push_13 (by decide) ?_
  refine j_irem (j_r32 30 rfl) dX8_push_15 ?_
  refine j_aaload4 (irem32_R _ _) dX8_push_16 (fun v4 => ?_)
  refine j_cast (z := v4) (st' := [(2, v4)]) (fun h => by simp only [List.map_cons, jpush, jtag, jval3r h]) (fun hq16 => ?_)
  refine j_aload_n 1 dX8_push_17 rfl rfl ?_
  refine j_callV (ci := 1) (As := [(2, a1)]) (st := []) kc_X1_copyFrom (c_X1_copyFrom v4 a1 S hq16 h1) rfl lm_X8_25 ki_X1_copyFrom ke_X1_copyFrom rfl (Nat.le_of_ble_eq_true rfl) (Nat.le_trans (m := 2) (Nat.le_of_ble_eq_true rfl) hd0) dX8_push_18 (fun v5 S6 _ => ?_)
  refine j_aload_n 0 dX8_push_21 rfl rfl ?_
  refine j_get (ci := 8) (k := 2) (t := 0) rfl in_X8 (Nat.le_of_ble_eq_true rfl) rfl rfl fl_X8_22 dX8_push_22 (fun (v7 : Int) (hv7 : R32 (v7)) => ?_)
  refine j_bipush dX8_push_25 (by decide) ?_
  refine j_icmp_ge (tgt := 43) hv7 (j_r32 30 rfl) dX8_push_27 rfl (fun _ => ?_) (fun _ => ?_)
  · refine j_aload_n 0 dX8_push_43 rfl rfl ?_
    refine j_aload_n 0 dX8_push_44 rfl rfl ?_
    refine j_get (ci := 8) (k := 1) (t := 0) rfl in_X8 (Nat.le_of_ble_eq_true rfl) rfl rfl fl_X8_18 dX8_push_45 (fun (v8 : Int) (hv8 : R32 (v8)) => ?_)
    refine j_iconst dX8_push_48 ?_
    refine j_iadd dX8_push_49 ?_
    refine j_bipush dX8_push_50 (by decide) ?_
    refine j_irem (j_r32 30 rfl) dX8_push_52 ?_
    refine j_puti (ci := 8) (k := 1) (ty0 := tyX8) rfl in_X8 (Nat.le_of_ble_eq_true rfl) rfl tyX8_ok nmX8 rfl rfl (by decide +kernel) (irem32_R _ _) fl_X8_18 dX8_push_53 (fun S9 => ?_)
    refine j_sub [] rfl ?_
    exact p_f_X8_push_b56 hd0 S9
  · refine j_aload_n 0 dX8_push_30 rfl rfl ?_
    refine j_dup dX8_push_31 (fun h => nomatch h) ?_
    refine j_get (ci := 8) (k := 2) (t := 0) rfl in_X8 (Nat.le_of_ble_eq_true rfl) rfl rfl fl_X8_22 dX8_push_32 (fun (v10 : Int) (hv10 : R32 (v10)) => ?_)
    refine j_iconst dX8_push_35 ?_
    refine j_iadd dX8_push_36 ?_
    refine j_puti (ci := 8) (k := 2) (ty0 := tyX8) rfl in_X8 (Nat.le_of_ble_eq_true rfl) rfl tyX8_ok nmX8 rfl rfl (by decide +kernel) (w32_R _) fl_X8_22 dX8_push_37 (fun S11 => ?_)
    refine j_goto (tgt := 56) dX8_push_40 rfl ?_
    refine j_sub [] rfl ?_
    exact p_f_X8_push_b56 hd0 S11
theorem c_X8_push {G : jG} (a0 : Int) (a1 : Int) (S : jSt) (h0 : 0 ≤ (a0)) (h1 : 0 ≤ (a1)) : CT G yX8_push cX8_push 2 none 2 ([(2, a0), (2, a1)].map jval) S (f_X8_push a0 a1 S) := ct_of [(2, a0), (2, a1)] (by decide) rfl (Nat.le_of_ble_eq_true rfl) (e_X8_push (Nat.le_refl _) a0 a1 S h0 h1)
-- X11_burn
def f_X11_burn (a0 : Int) (a1 : Int) (S : jSt) : Option (Int × jSt) :=
  fgetr S a0 11 8 (fun v1 => fgetr S a0 11 1 (fun v2 => fcallv S v1 5 (f_X5_canBurn v1 v2 a1 S) (fun v3 S4 => if v3 = 0 then some (0, S4) else fgetr S4 a0 11 2 (fun v5 => fgetr S4 a0 11 1 (fun v6 => fcallv S4 v5 8 (f_X8_push v5 v6 S4) (fun v7 S8 => fgetr S8 a0 11 1 (fun v9 => fgetr S8 v9 1 0 (fun v10 => fast S8 v10 a1 1 2 (fun S11 => some (1, S11))))))))))
theorem e_X11_burn {G : jG} {d : Nat} {S0 : jSt} (hd0 : 4 ≤ d) (a0 : Int) (a1 : Int) (S : jSt) (h0 : 0 ≤ (a0)) (h1 : R32 (a1)) : J G yX11_burn cX11_burn 2 (some .boolean) d S0 0 [(0, 2, a0), (1, 0, a1)] [] S (f_X11_burn a0 a1 S) := by
  unfold f_X11_burn
  refine j_aload_n 0 dX11_burn_0 rfl rfl ?_
  refine j_getr (ci := 11) (k := 8) rfl in_X11 (Nat.le_of_ble_eq_true rfl) rfl rfl fl_X11_60 dX11_burn_1 (fun (v1 : Int) (hv1 : 0 ≤ v1) => ?_)
  refine j_aload_n 0 dX11_burn_4 rfl rfl ?_
  refine j_getr (ci := 11) (k := 1) rfl in_X11 (Nat.le_of_ble_eq_true rfl) rfl rfl fl_X11_19 dX11_burn_5 (fun (v2 : Int) (hv2 : 0 ≤ v2) => ?_)
  refine j_iload_n 1 dX11_burn_8 rfl rfl ?_
  refine j_callV (ci := 5) (As := [(2, v2), (0, a1)]) (st := []) kc_X5_canBurn (c_X5_canBurn v1 v2 a1 S hv1 hv2 h1) rfl lm_X11_179 ki_X5_canBurn ke_X5_canBurn rfl (Nat.le_of_ble_eq_true rfl) (Nat.le_trans (m := 4) (Nat.le_of_ble_eq_true rfl) hd0) dX11_burn_9 (fun (v3 : Int) (S4 : jSt) (hv3 : (v3) = 0 ∨ (v3) = 1) => ?_)
  refine j_if_ne (tgt := 17) (jZ_R hv3) dX11_burn_12 rfl (fun _ => ?_) (fun _ => ?_)
  · refine j_aload_n 0 dX11_burn_17 rfl rfl ?_
    refine j_getr (ci := 11) (k := 2) rfl in_X11 (Nat.le_of_ble_eq_true rfl) rfl rfl fl_X11_26 dX11_burn_18 (fun (v5 : Int) (hv5 : 0 ≤ v5) => ?_)
    refine j_aload_n 0 dX11_burn_21 rfl rfl ?_
    refine j_getr (ci := 11) (k := 1) rfl in_X11 (Nat.le_of_ble_eq_true rfl) rfl rfl fl_X11_19 dX11_burn_22 (fun (v6 : Int) (hv6 : 0 ≤ v6) => ?_)
    refine j_callV (ci := 8) (As := [(2, v6)]) (st := []) kc_X8_push (c_X8_push v5 v6 S4 hv5 hv6) rfl lm_X11_162 ki_X8_push ke_X8_push rfl (Nat.le_of_ble_eq_true rfl) (Nat.le_trans (m := 4) (Nat.le_of_ble_eq_true rfl) hd0) dX11_burn_25 (fun v7 S8 _ => ?_)
    refine j_aload_n 0 dX11_burn_28 rfl rfl ?_
    refine j_getr (ci := 11) (k := 1) rfl in_X11 (Nat.le_of_ble_eq_true rfl) rfl rfl fl_X11_19 dX11_burn_29 (fun (v9 : Int) (hv9 : 0 ≤ v9) => ?_)
    refine j_getr (ci := 1) (k := 0) rfl in_X1 (Nat.le_of_ble_eq_true rfl) rfl rfl fl_X11_182 dX11_burn_32 (fun (v10 : Int) (hv10 : 0 ≤ v10) => ?_)
    refine j_iload_n 1 dX11_burn_35 rfl rfl ?_
    refine j_iconst dX11_burn_36 ?_
    refine j_iastore h1 (j_r32 2 rfl) dX11_burn_37 (fun S11 => ?_)
    refine j_iconst dX11_burn_38 ?_
    exact j_zreturn jz1 dX11_burn_39
  · refine j_iconst dX11_burn_15 ?_
    exact j_zreturn jz0 dX11_burn_16
theorem c_X11_burn {G : jG} (a0 : Int) (a1 : Int) (S : jSt) (h0 : 0 ≤ (a0)) (h1 : R32 (a1)) : CT G yX11_burn cX11_burn 2 (some .boolean) 4 ([(2, a0), (0, a1)].map jval) S (f_X11_burn a0 a1 S) := ct_of [(2, a0), (0, a1)] (by decide) rfl (Nat.le_of_ble_eq_true rfl) (e_X11_burn (Nat.le_refl _) a0 a1 S h0 h1)
-- X11_burnt
def f_X11_burnt_b55 (x0 : Int) (S : jSt) : Option (Int × jSt) :=
  some (x0, S)
theorem p_f_X11_burnt_b55 {G : jG} {d : Nat} {S0 : jSt} (hd0 : 104 ≤ d) : ∀ (x0 : Int) (S : jSt), (R32 (x0)) → J G yX11_burnt cX11_burnt 4 (some .int) d S0 55 [] [(0, x0)] S (f_X11_burnt_b55  x0 S) := by
  intro x0 S h0
  unfold f_X11_burnt_b55
  exact j_ireturn h0 dX11_burnt_55
def f_X11_burnt (a0 : Int) (a1 : Int) (a2 : Int) (a3 : Int) (S : jSt) : Option (Int × jSt) :=
  fcallv S a0 11 (f_X11_ash a0 a1 a2 S) (fun v1 S2 => if v1 = (-1) then some ((-1), S2) else fgetr S2 a0 11 9 (fun v3 => fget S2 v3 0 2 (fun v4 => if v4 = 0 then some (0, S2) else if a3 = 0 then fgetr S2 a0 11 9 (fun v5 => fget S2 v5 0 5 (fun v6 => fgetr S2 a0 11 9 (fun v7 => fget S2 v7 0 4 (fun v8 => f_X11_burnt_b55 (iand32 v6 (ixor32 v8 (-1))) S2)))) else fgetr S2 a0 11 9 (fun v9 => fget S2 v9 0 3 (fun v10 => f_X11_burnt_b55 v10 S2)))))
theorem e_X11_burnt {G : jG} {d : Nat} {S0 : jSt} (hd0 : 104 ≤ d) (a0 : Int) (a1 : Int) (a2 : Int) (a3 : Int) (S : jSt) (h0 : 0 ≤ (a0)) (h1 : R32 (a1)) (h2 : R32 (a2)) (h3 : (a3) = 0 ∨ (a3) = 1) : J G yX11_burnt cX11_burnt 4 (some .int) d S0 0 [(0, 2, a0), (1, 0, a1), (2, 0, a2), (3, 0, a3)] [] S (f_X11_burnt a0 a1 a2 a3 S) := by
  unfold f_X11_burnt
  refine j_aload_n 0 dX11_burnt_0 rfl rfl ?_
  refine j_iload_n 1 dX11_burnt_1 rfl rfl ?_
  refine j_iload_n 2 dX11_burnt_2 rfl rfl ?_
  refine j_callV (ci := 11) (As := [(0, a1), (0, a2)]) (st := []) kc_X11_ash (c_X11_ash a0 a1 a2 S h0 h1 h2) rfl lm_X11_392 ki_X11_ash ke_X11_ash rfl (Nat.le_of_ble_eq_true rfl) (Nat.le_trans (m := 104) (Nat.le_of_ble_eq_true rfl) hd0) dX11_burnt_3 (fun (v1 : Int) (S2 : jSt) (hv1 : R32 (v1)) => ?_)
  refine j_iconst dX11_burnt_6 ?_
  refine j_icmp_ne (tgt := 12) hv1 (j_r32 (-1) rfl) dX11_burnt_7 rfl (fun _ => ?_) (fun _ => ?_)
  · refine j_aload_n 0 dX11_burnt_12 rfl rfl ?_
    refine j_getr (ci := 11) (k := 9) rfl in_X11 (Nat.le_of_ble_eq_true rfl) rfl rfl fl_X11_69 dX11_burnt_13 (fun (v3 : Int) (hv3 : 0 ≤ v3) => ?_)
    refine j_get (ci := 0) (k := 2) (t := 0) rfl in_X0 (Nat.le_of_ble_eq_true rfl) rfl rfl fl_X11_389 dX11_burnt_16 (fun (v4 : Int) (hv4 : R32 (v4)) => ?_)
    refine j_if_ne (tgt := 24) hv4 dX11_burnt_19 rfl (fun _ => ?_) (fun _ => ?_)
    · refine j_iload_n 3 dX11_burnt_24 rfl rfl ?_
      refine j_if_eq (tgt := 38) (jZ_R h3) dX11_burnt_25 rfl (fun _ => ?_) (fun _ => ?_)
      · refine j_aload_n 0 dX11_burnt_38 rfl rfl ?_
        refine j_getr (ci := 11) (k := 9) rfl in_X11 (Nat.le_of_ble_eq_true rfl) rfl rfl fl_X11_69 dX11_burnt_39 (fun (v5 : Int) (hv5 : 0 ≤ v5) => ?_)
        refine j_get (ci := 0) (k := 5) (t := 0) rfl in_X0 (Nat.le_of_ble_eq_true rfl) rfl rfl fl_X11_398 dX11_burnt_42 (fun (v6 : Int) (hv6 : R32 (v6)) => ?_)
        refine j_aload_n 0 dX11_burnt_45 rfl rfl ?_
        refine j_getr (ci := 11) (k := 9) rfl in_X11 (Nat.le_of_ble_eq_true rfl) rfl rfl fl_X11_69 dX11_burnt_46 (fun (v7 : Int) (hv7 : 0 ≤ v7) => ?_)
        refine j_get (ci := 0) (k := 4) (t := 0) rfl in_X0 (Nat.le_of_ble_eq_true rfl) rfl rfl fl_X11_401 dX11_burnt_49 (fun (v8 : Int) (hv8 : R32 (v8)) => ?_)
        refine j_iconst dX11_burnt_52 ?_
        refine j_ixor dX11_burnt_53 ?_
        refine j_iand dX11_burnt_54 ?_
        refine j_sub [] rfl ?_
        exact p_f_X11_burnt_b55 hd0 (iand32 v6 (ixor32 v8 (-1))) S2 (iand32_R _ _)
      · refine j_aload_n 0 dX11_burnt_28 rfl rfl ?_
        refine j_getr (ci := 11) (k := 9) rfl in_X11 (Nat.le_of_ble_eq_true rfl) rfl rfl fl_X11_69 dX11_burnt_29 (fun (v9 : Int) (hv9 : 0 ≤ v9) => ?_)
        refine j_get (ci := 0) (k := 3) (t := 0) rfl in_X0 (Nat.le_of_ble_eq_true rfl) rfl rfl fl_X11_395 dX11_burnt_32 (fun (v10 : Int) (hv10 : R32 (v10)) => ?_)
        refine j_goto (tgt := 55) dX11_burnt_35 rfl ?_
        refine j_sub [] rfl ?_
        exact p_f_X11_burnt_b55 hd0 v10 S2 hv10
    · refine j_iconst dX11_burnt_22 ?_
      exact j_ireturn (jZ_R jz0) dX11_burnt_23
  · refine j_iconst dX11_burnt_10 ?_
    exact j_ireturn (j_r32 (-1) rfl) dX11_burnt_11
theorem c_X11_burnt {G : jG} (a0 : Int) (a1 : Int) (a2 : Int) (a3 : Int) (S : jSt) (h0 : 0 ≤ (a0)) (h1 : R32 (a1)) (h2 : R32 (a2)) (h3 : (a3) = 0 ∨ (a3) = 1) : CT G yX11_burnt cX11_burnt 4 (some .int) 104 ([(2, a0), (0, a1), (0, a2), (0, a3)].map jval) S (f_X11_burnt a0 a1 a2 a3 S) := ct_of [(2, a0), (0, a1), (0, a2), (0, a3)] (by decide) rfl (Nat.le_of_ble_eq_true rfl) (e_X11_burnt (Nat.le_refl _) a0 a1 a2 a3 S h0 h1 h2 h3)
-- X5_buyBack
def f_X5_buyBack (a0 : Int) (a1 : Int) (a2 : Int) (a3 : Int) (S : jSt) : Option (Int × jSt) :=
  fgetr S a1 1 0 (fun v1 => fald S v1 a2 1 (fun v2 => flet (w32 (v2 - 3)) (fun v3 => fget S a1 1 6 (fun v4 => fput S a1 1 6 (w32 (v4 - a3)) (fun S5 => fgetr S5 a1 1 2 (fun v6 => fgetr S5 a1 1 2 (fun v7 => fald S5 v7 v3 1 (fun v8 => fast S5 v6 v3 1 (imin 9999 (w32 (v8 + a3))) (fun S9 => fgetr S9 a1 1 0 (fun v10 => fast S9 v10 a2 1 1 (fun S11 => some (0, S11))))))))))))
theorem e_X5_buyBack {G : jG} {d : Nat} {S0 : jSt} (hd0 : 1 ≤ d) (a0 : Int) (a1 : Int) (a2 : Int) (a3 : Int) (S : jSt) (h0 : 0 ≤ (a0)) (h1 : 0 ≤ (a1)) (h2 : R32 (a2)) (h3 : R32 (a3)) : J G yX5_buyBack cX5_buyBack 5 none d S0 0 [(0, 2, a0), (1, 2, a1), (2, 0, a2), (3, 0, a3)] [] S (f_X5_buyBack a0 a1 a2 a3 S) := by
  unfold f_X5_buyBack
  refine j_aload_n 1 dX5_buyBack_0 rfl rfl ?_
  refine j_getr (ci := 1) (k := 0) rfl in_X1 (Nat.le_of_ble_eq_true rfl) rfl rfl fl_X5_93 dX5_buyBack_1 (fun (v1 : Int) (hv1 : 0 ≤ v1) => ?_)
  refine j_iload_n 2 dX5_buyBack_4 rfl rfl ?_
  refine j_iaload h2 dX5_buyBack_5 (fun (v2 : Int) (hv2 : R32 (v2)) => ?_)
  refine j_iconst dX5_buyBack_6 ?_
  refine j_isub dX5_buyBack_7 ?_
  refine j_leti (w32_R _) (fun v3 hv3 => ?_)
  refine j_istore (lv' := [(4, 0, v3), (0, 2, a0), (1, 2, a1), (2, 0, a2), (3, 0, a3)]) dX5_buyBack_8 (Nat.le_of_ble_eq_true rfl) rfl ?_
  refine j_aload_n 2 dX5_buyBack_10 rfl rfl ?_
  refine j_dup dX5_buyBack_11 (fun h => nomatch h) ?_
  refine j_get (ci := 1) (k := 6) (t := 0) rfl in_X1 (Nat.le_of_ble_eq_true rfl) rfl rfl fl_X5_90 dX5_buyBack_12 (fun (v4 : Int) (hv4 : R32 (v4)) => ?_)
  refine j_iload_n 4 dX5_buyBack_15 rfl rfl ?_
  refine j_isub dX5_buyBack_16 ?_
  refine j_puti (ci := 1) (k := 6) (ty0 := tyX1) rfl in_X1 (Nat.le_of_ble_eq_true rfl) rfl tyX1_ok nmX1 rfl rfl (by decide +kernel) (w32_R _) fl_X5_90 dX5_buyBack_17 (fun S5 => ?_)
  refine j_aload_n 2 dX5_buyBack_20 rfl rfl ?_
  refine j_getr (ci := 1) (k := 2) rfl in_X1 (Nat.le_of_ble_eq_true rfl) rfl rfl fl_X5_71 dX5_buyBack_21 (fun (v6 : Int) (hv6 : 0 ≤ v6) => ?_)
  refine j_iload 0 dX5_buyBack_24 rfl ?_
  refine j_sipush dX5_buyBack_26 (by decide) ?_
  refine j_aload_n 2 dX5_buyBack_29 rfl rfl ?_
  refine j_getr (ci := 1) (k := 2) rfl in_X1 (Nat.le_of_ble_eq_true rfl) rfl rfl fl_X5_71 dX5_buyBack_30 (fun (v7 : Int) (hv7 : 0 ≤ v7) => ?_)
  refine j_iload 0 dX5_buyBack_33 rfl ?_
  refine j_iaload hv3 dX5_buyBack_35 (fun (v8 : Int) (hv8 : R32 (v8)) => ?_)
  refine j_iload_n 4 dX5_buyBack_36 rfl rfl ?_
  refine j_iadd dX5_buyBack_37 ?_
  refine j_mmin (j_r32 9999 rfl) (w32_R _) lx_X5_54 mx_s_mmin mx_i mx_c_mmin (Nat.le_of_ble_eq_true rfl) (Nat.le_trans (Nat.le_of_ble_eq_true rfl) hd0) dX5_buyBack_38 ?_
  refine j_iastore hv3 (imin_R (j_r32 9999 rfl) (w32_R _)) dX5_buyBack_41 (fun S9 => ?_)
  refine j_aload_n 2 dX5_buyBack_42 rfl rfl ?_
  refine j_getr (ci := 1) (k := 0) rfl in_X1 (Nat.le_of_ble_eq_true rfl) rfl rfl fl_X5_93 dX5_buyBack_43 (fun (v10 : Int) (hv10 : 0 ≤ v10) => ?_)
  refine j_iload_n 3 dX5_buyBack_46 rfl rfl ?_
  refine j_iconst dX5_buyBack_47 ?_
  refine j_iastore h2 (jZ_R jz1) dX5_buyBack_48 (fun S11 => ?_)
  exact j_return dX5_buyBack_49
theorem c_X5_buyBack {G : jG} (a0 : Int) (a1 : Int) (a2 : Int) (a3 : Int) (S : jSt) (h0 : 0 ≤ (a0)) (h1 : 0 ≤ (a1)) (h2 : R32 (a2)) (h3 : R32 (a3)) : CT G yX5_buyBack cX5_buyBack 5 none 1 ([(2, a0), (2, a1), (0, a2), (0, a3)].map jval) S (f_X5_buyBack a0 a1 a2 a3 S) := ct_of [(2, a0), (2, a1), (0, a2), (0, a3)] (by decide) rfl (Nat.le_of_ble_eq_true rfl) (e_X5_buyBack (Nat.le_refl _) a0 a1 a2 a3 S h0 h1 h2 h3)
-- X5_canBuyBack
def f_X5_canBuyBack_b32 (S : jSt) : Option (Int × jSt) :=
  some (0, S)
theorem p_f_X5_canBuyBack_b32 {G : jG} {d : Nat} {S0 : jSt} (hd0 : 3 ≤ d) : ∀ (S : jSt), J G yX5_canBuyBack cX5_canBuyBack 5 (some .boolean) d S0 32 [] [] S (f_X5_canBuyBack_b32   S) := by
  intro S
  unfold f_X5_canBuyBack_b32
  refine j_iconst dX5_canBuyBack_32 ?_
  exact j_zreturn jz0 dX5_canBuyBack_33
def f_X5_canBuyBack_b72 (x0 : Int) (S : jSt) : Option (Int × jSt) :=
  some (x0, S)
theorem p_f_X5_canBuyBack_b72 {G : jG} {d : Nat} {S0 : jSt} (hd0 : 3 ≤ d) : ∀ (x0 : Int) (S : jSt), ((x0) = 0 ∨ (x0) = 1) → J G yX5_canBuyBack cX5_canBuyBack 5 (some .boolean) d S0 72 [] [(0, x0)] S (f_X5_canBuyBack_b72  x0 S) := by
  intro x0 S h0
  unfold f_X5_canBuyBack_b72
  exact j_zreturn h0 dX5_canBuyBack_72
def f_X5_canBuyBack_b71 (S : jSt) : Option (Int × jSt) :=
  f_X5_canBuyBack_b72 0 S
theorem p_f_X5_canBuyBack_b71 {G : jG} {d : Nat} {S0 : jSt} (hd0 : 3 ≤ d) : ∀ (S : jSt), J G yX5_canBuyBack cX5_canBuyBack 5 (some .boolean) d S0 71 [] [] S (f_X5_canBuyBack_b71   S) := by
  intro S
  unfold f_X5_canBuyBack_b71
  refine j_iconst dX5_canBuyBack_71 ?_
  exact p_f_X5_canBuyBack_b72 hd0 0 S jz0
def f_X5_canBuyBack (a0 : Int) (a1 : Int) (a2 : Int) (a3 : Int) (S : jSt) : Option (Int × jSt) :=
  fgetr S a0 5 2 (fun v1 => fcallv S v1 10 (f_X10_hasLot v1 a2 S) (fun v2 S3 => if v2 = 0 then f_X5_canBuyBack_b32 S3 else fgetr S3 a1 1 0 (fun v4 => fald S3 v4 a2 1 (fun v5 => if v5 < 3 then f_X5_canBuyBack_b32 S3 else fcall (f_X11_within a3 0 999 S3) (fun v6 S7 => if v6 = 0 then f_X5_canBuyBack_b32 S7 else fgetr S7 a1 1 0 (fun v8 => fald S7 v8 a2 1 (fun v9 => flet (w32 (v9 - 3)) (fun v10 => fget S7 a1 1 6 (fun v11 => if v11 < a3 then f_X5_canBuyBack_b71 S7 else fgetr S7 a1 1 3 (fun v12 => fcall (f_X11_wantAt v10 a2 S7) (fun v13 S14 => fald S14 v12 v13 1 (fun v15 => if a3 < v15 then f_X5_canBuyBack_b71 S14 else f_X5_canBuyBack_b72 1 S14))))))))))))
theorem e_X5_canBuyBack {G : jG} {d : Nat} {S0 : jSt} (hd0 : 3 ≤ d) (a0 : Int) (a1 : Int) (a2 : Int) (a3 : Int) (S : jSt) (h0 : 0 ≤ (a0)) (h1 : 0 ≤ (a1)) (h2 : R32 (a2)) (h3 : R32 (a3)) : J G yX5_canBuyBack cX5_canBuyBack 5 (some .boolean) d S0 0 [(0, 2, a0), (1, 2, a1), (2, 0, a2), (3, 0, a3)] [] S (f_X5_canBuyBack a0 a1 a2 a3 S) := by
  unfold f_X5_canBuyBack
  refine j_aload_n 0 dX5_canBuyBack_0 rfl rfl ?_
  refine j_getr (ci := 5) (k := 2) rfl in_X5 (Nat.le_of_ble_eq_true rfl) rfl rfl fl_X5_18 dX5_canBuyBack_1 (fun (v1 : Int) (hv1 : 0 ≤ v1) => ?_)
  refine j_iload_n 2 dX5_canBuyBack_4 rfl rfl ?_
  refine j_callV (ci := 10) (As := [(0, a2)]) (st := []) kc_X10_hasLot (c_X10_hasLot v1 a2 S hv1 h2) rfl lm_X5_100 ki_X10_hasLot ke_X10_hasLot rfl (Nat.le_of_ble_eq_true rfl) (Nat.le_trans (m := 3) (Nat.le_of_ble_eq_true rfl) hd0) dX5_canBuyBack_5 (fun (v2 : Int) (S3 : jSt) (hv2 : (v2) = 0 ∨ (v2) = 1) => ?_)
  refine j_if_eq (tgt := 32) (jZ_R hv2) dX5_canBuyBack_8 rfl (fun _ => ?_) (fun _ => ?_)
  · refine j_sub [] rfl ?_
    exact p_f_X5_canBuyBack_b32 hd0 S3
  · refine j_aload_n 1 dX5_canBuyBack_11 rfl rfl ?_
    refine j_getr (ci := 1) (k := 0) rfl in_X1 (Nat.le_of_ble_eq_true rfl) rfl rfl fl_X5_93 dX5_canBuyBack_12 (fun (v4 : Int) (hv4 : 0 ≤ v4) => ?_)
    refine j_iload_n 2 dX5_canBuyBack_15 rfl rfl ?_
    refine j_iaload h2 dX5_canBuyBack_16 (fun (v5 : Int) (hv5 : R32 (v5)) => ?_)
    refine j_iconst dX5_canBuyBack_17 ?_
    refine j_icmp_lt (tgt := 32) hv5 (j_r32 3 rfl) dX5_canBuyBack_18 rfl (fun _ => ?_) (fun _ => ?_)
    · refine j_sub [] rfl ?_
      exact p_f_X5_canBuyBack_b32 hd0 S3
    · refine j_iload_n 3 dX5_canBuyBack_21 rfl rfl ?_
      refine j_iconst dX5_canBuyBack_22 ?_
      refine j_sipush dX5_canBuyBack_23 (by decide) ?_
      refine j_callSN (As := [(0, a3), (0, 0), (0, 999)]) (st := []) (host := RX11) kc_X11_within (c_X11_within a3 0 999 S3 h3 (jZ_R jz0) (j_r32 999 rfl)) (by decide +kernel) ks_X11_within rfl (Nat.le_of_ble_eq_true rfl) (Nat.le_trans (m := 3) (Nat.le_of_ble_eq_true rfl) hd0) dX5_canBuyBack_26 (fun (v6 : Int) (S7 : jSt) (hv6 : (v6) = 0 ∨ (v6) = 1) => ?_)
      refine j_if_ne (tgt := 34) (jZ_R hv6) dX5_canBuyBack_29 rfl (fun _ => ?_) (fun _ => ?_)
      · refine j_aload_n 1 dX5_canBuyBack_34 rfl rfl ?_
        refine j_getr (ci := 1) (k := 0) rfl in_X1 (Nat.le_of_ble_eq_true rfl) rfl rfl fl_X5_93 dX5_canBuyBack_35 (fun (v8 : Int) (hv8 : 0 ≤ v8) => ?_)
        refine j_iload_n 2 dX5_canBuyBack_38 rfl rfl ?_
        refine j_iaload h2 dX5_canBuyBack_39 (fun (v9 : Int) (hv9 : R32 (v9)) => ?_)
        refine j_iconst dX5_canBuyBack_40 ?_
        refine j_isub dX5_canBuyBack_41 ?_
        refine j_leti (w32_R _) (fun v10 hv10 => ?_)
        refine j_istore (lv' := [(4, 0, v10), (0, 2, a0), (1, 2, a1), (2, 0, a2), (3, 0, a3)]) dX5_canBuyBack_42 (Nat.le_of_ble_eq_true rfl) rfl ?_
        refine j_iload_n 4 dX5_canBuyBack_44 rfl rfl ?_
        refine j_aload_n 2 dX5_canBuyBack_45 rfl rfl ?_
        refine j_get (ci := 1) (k := 6) (t := 0) rfl in_X1 (Nat.le_of_ble_eq_true rfl) rfl rfl fl_X5_90 dX5_canBuyBack_46 (fun (v11 : Int) (hv11 : R32 (v11)) => ?_)
        refine j_icmp_gt (tgt := 71) h3 hv11 dX5_canBuyBack_49 rfl (fun _ => ?_) (fun _ => ?_)
        · refine j_sub [] rfl ?_
          exact p_f_X5_canBuyBack_b71 hd0 S7
        · refine j_iload_n 4 dX5_canBuyBack_52 rfl rfl ?_
          refine j_aload_n 2 dX5_canBuyBack_53 rfl rfl ?_
          refine j_getr (ci := 1) (k := 3) rfl in_X1 (Nat.le_of_ble_eq_true rfl) rfl rfl fl_X5_63 dX5_canBuyBack_54 (fun (v12 : Int) (hv12 : 0 ≤ v12) => ?_)
          refine j_iload 0 dX5_canBuyBack_57 rfl ?_
          refine j_iload_n 3 dX5_canBuyBack_59 rfl rfl ?_
          refine j_callSN (As := [(0, v10), (0, a2)]) (st := [(2, v12), (0, a3)]) (host := RX11) kc_X11_wantAt (c_X11_wantAt v10 a2 S7 hv10 h2) (by decide +kernel) ks_X11_wantAt rfl (Nat.le_of_ble_eq_true rfl) (Nat.le_trans (m := 3) (Nat.le_of_ble_eq_true rfl) hd0) dX5_canBuyBack_60 (fun (v13 : Int) (S14 : jSt) (hv13 : R32 (v13)) => ?_)
          refine j_iaload hv13 dX5_canBuyBack_63 (fun (v15 : Int) (hv15 : R32 (v15)) => ?_)
          refine j_icmp_lt (tgt := 71) h3 hv15 dX5_canBuyBack_64 rfl (fun _ => ?_) (fun _ => ?_)
          · refine j_sub [] rfl ?_
            exact p_f_X5_canBuyBack_b71 hd0 S14
          · refine j_iconst dX5_canBuyBack_67 ?_
            refine j_goto (tgt := 72) dX5_canBuyBack_68 rfl ?_
            refine j_sub [] rfl ?_
            exact p_f_X5_canBuyBack_b72 hd0 1 S14 jz1
      · refine j_sub [] rfl ?_
        exact p_f_X5_canBuyBack_b32 hd0 S7
theorem c_X5_canBuyBack {G : jG} (a0 : Int) (a1 : Int) (a2 : Int) (a3 : Int) (S : jSt) (h0 : 0 ≤ (a0)) (h1 : 0 ≤ (a1)) (h2 : R32 (a2)) (h3 : R32 (a3)) : CT G yX5_canBuyBack cX5_canBuyBack 5 (some .boolean) 3 ([(2, a0), (2, a1), (0, a2), (0, a3)].map jval) S (f_X5_canBuyBack a0 a1 a2 a3 S) := ct_of [(2, a0), (2, a1), (0, a2), (0, a3)] (by decide) rfl (Nat.le_of_ble_eq_true rfl) (e_X5_canBuyBack (Nat.le_refl _) a0 a1 a2 a3 S h0 h1 h2 h3)
-- X11_buy
def f_X11_buy (a0 : Int) (a1 : Int) (a2 : Int) (S : jSt) : Option (Int × jSt) :=
  fgetr S a0 11 8 (fun v1 => fgetr S a0 11 1 (fun v2 => fcallv S v1 5 (f_X5_canBuyBack v1 v2 a1 a2 S) (fun v3 S4 => if v3 = 0 then some (0, S4) else fgetr S4 a0 11 2 (fun v5 => fgetr S4 a0 11 1 (fun v6 => fcallv S4 v5 8 (f_X8_push v5 v6 S4) (fun v7 S8 => fgetr S8 a0 11 8 (fun v9 => fgetr S8 a0 11 1 (fun v10 => fcallv S8 v9 5 (f_X5_buyBack v9 v10 a1 a2 S8) (fun v11 S12 => some (1, S12))))))))))
theorem e_X11_buy {G : jG} {d : Nat} {S0 : jSt} (hd0 : 4 ≤ d) (a0 : Int) (a1 : Int) (a2 : Int) (S : jSt) (h0 : 0 ≤ (a0)) (h1 : R32 (a1)) (h2 : R32 (a2)) : J G yX11_buy cX11_buy 3 (some .boolean) d S0 0 [(0, 2, a0), (1, 0, a1), (2, 0, a2)] [] S (f_X11_buy a0 a1 a2 S) := by
  unfold f_X11_buy
  refine j_aload_n 0 dX11_buy_0 rfl rfl ?_
  refine j_getr (ci := 11) (k := 8) rfl in_X11 (Nat.le_of_ble_eq_true rfl) rfl rfl fl_X11_60 dX11_buy_1 (fun (v1 : Int) (hv1 : 0 ≤ v1) => ?_)
  refine j_aload_n 0 dX11_buy_4 rfl rfl ?_
  refine j_getr (ci := 11) (k := 1) rfl in_X11 (Nat.le_of_ble_eq_true rfl) rfl rfl fl_X11_19 dX11_buy_5 (fun (v2 : Int) (hv2 : 0 ≤ v2) => ?_)
  refine j_iload_n 1 dX11_buy_8 rfl rfl ?_
  refine j_iload_n 2 dX11_buy_9 rfl rfl ?_
  refine j_callV (ci := 5) (As := [(2, v2), (0, a1), (0, a2)]) (st := []) kc_X5_canBuyBack (c_X5_canBuyBack v1 v2 a1 a2 S hv1 hv2 h1 h2) rfl lm_X11_185 ki_X5_canBuyBack ke_X5_canBuyBack rfl (Nat.le_of_ble_eq_true rfl) (Nat.le_trans (m := 4) (Nat.le_of_ble_eq_true rfl) hd0) dX11_buy_10 (fun (v3 : Int) (S4 : jSt) (hv3 : (v3) = 0 ∨ (v3) = 1) => ?_)
  refine j_if_ne (tgt := 18) (jZ_R hv3) dX11_buy_13 rfl (fun _ => ?_) (fun _ => ?_)
  · refine j_aload_n 0 dX11_buy_18 rfl rfl ?_
    refine j_getr (ci := 11) (k := 2) rfl in_X11 (Nat.le_of_ble_eq_true rfl) rfl rfl fl_X11_26 dX11_buy_19 (fun (v5 : Int) (hv5 : 0 ≤ v5) => ?_)
    refine j_aload_n 0 dX11_buy_22 rfl rfl ?_
    refine j_getr (ci := 11) (k := 1) rfl in_X11 (Nat.le_of_ble_eq_true rfl) rfl rfl fl_X11_19 dX11_buy_23 (fun (v6 : Int) (hv6 : 0 ≤ v6) => ?_)
    refine j_callV (ci := 8) (As := [(2, v6)]) (st := []) kc_X8_push (c_X8_push v5 v6 S4 hv5 hv6) rfl lm_X11_162 ki_X8_push ke_X8_push rfl (Nat.le_of_ble_eq_true rfl) (Nat.le_trans (m := 4) (Nat.le_of_ble_eq_true rfl) hd0) dX11_buy_26 (fun v7 S8 _ => ?_)
    refine j_aload_n 0 dX11_buy_29 rfl rfl ?_
    refine j_getr (ci := 11) (k := 8) rfl in_X11 (Nat.le_of_ble_eq_true rfl) rfl rfl fl_X11_60 dX11_buy_30 (fun (v9 : Int) (hv9 : 0 ≤ v9) => ?_)
    refine j_aload_n 0 dX11_buy_33 rfl rfl ?_
    refine j_getr (ci := 11) (k := 1) rfl in_X11 (Nat.le_of_ble_eq_true rfl) rfl rfl fl_X11_19 dX11_buy_34 (fun (v10 : Int) (hv10 : 0 ≤ v10) => ?_)
    refine j_iload_n 1 dX11_buy_37 rfl rfl ?_
    refine j_iload_n 2 dX11_buy_38 rfl rfl ?_
    refine j_callV (ci := 5) (As := [(2, v10), (0, a1), (0, a2)]) (st := []) kc_X5_buyBack (c_X5_buyBack v9 v10 a1 a2 S8 hv9 hv10 h1 h2) rfl lm_X11_189 ki_X5_buyBack ke_X5_buyBack rfl (Nat.le_of_ble_eq_true rfl) (Nat.le_trans (m := 4) (Nat.le_of_ble_eq_true rfl) hd0) dX11_buy_39 (fun v11 S12 _ => ?_)
    refine j_iconst dX11_buy_42 ?_
    exact j_zreturn jz1 dX11_buy_43
  · refine j_iconst dX11_buy_16 ?_
    exact j_zreturn jz0 dX11_buy_17
theorem c_X11_buy {G : jG} (a0 : Int) (a1 : Int) (a2 : Int) (S : jSt) (h0 : 0 ≤ (a0)) (h1 : R32 (a1)) (h2 : R32 (a2)) : CT G yX11_buy cX11_buy 3 (some .boolean) 4 ([(2, a0), (0, a1), (0, a2)].map jval) S (f_X11_buy a0 a1 a2 S) := ct_of [(2, a0), (0, a1), (0, a2)] (by decide) rfl (Nat.le_of_ble_eq_true rfl) (e_X11_buy (Nat.le_refl _) a0 a1 a2 S h0 h1 h2)
-- X11_by
def f_X11_by_b18 (x0 : Int) (x1 : Int) (S : jSt) : Option (Int × jSt) :=
  fgetr S x0 11 0 (fun v1 => fput S v1 10 6 x1 (fun S2 => some (1, S2)))
theorem p_f_X11_by_b18 {G : jG} {d : Nat} {S0 : jSt} (hd0 : 3 ≤ d) : ∀ (x0 : Int) (x1 : Int) (S : jSt), (0 ≤ (x0)) → (R32 (x1)) → J G yX11_by cX11_by 2 (some .boolean) d S0 18 [(0, 2, x0), (1, 0, x1)] [] S (f_X11_by_b18  x0 x1 S) := by
  intro x0 x1 S h0 h1
  unfold f_X11_by_b18
  refine j_aload_n 0 dX11_by_18 rfl rfl ?_
  refine j_getr (ci := 11) (k := 0) rfl in_X11 (Nat.le_of_ble_eq_true rfl) rfl rfl fl_X11_10 dX11_by_19 (fun (v1 : Int) (hv1 : 0 ≤ v1) => ?_)
  refine j_iload_n 1 dX11_by_22 rfl rfl ?_
  refine j_puti (ci := 10) (k := 6) (ty0 := tyX10) rfl in_X10 (Nat.le_of_ble_eq_true rfl) rfl tyX10_ok nmX10 rfl rfl (by decide +kernel) h1 fl_X11_155 dX11_by_23 (fun S2 => ?_)
  refine j_iconst dX11_by_26 ?_
  exact j_zreturn jz1 dX11_by_27
def f_X11_by (a0 : Int) (a1 : Int) (S : jSt) : Option (Int × jSt) :=
  if a1 = (-1) then f_X11_by_b18 a0 a1 S else fgetr S a0 11 0 (fun v3 => fcallv S v3 10 (f_X10_hasText v3 a1 S) (fun v4 S5 => if v4 = 0 then some (0, S5) else f_X11_by_b18 a0 a1 S5))
theorem e_X11_by {G : jG} {d : Nat} {S0 : jSt} (hd0 : 3 ≤ d) (a0 : Int) (a1 : Int) (S : jSt) (h0 : 0 ≤ (a0)) (h1 : R32 (a1)) : J G yX11_by cX11_by 2 (some .boolean) d S0 0 [(0, 2, a0), (1, 0, a1)] [] S (f_X11_by a0 a1 S) := by
  unfold f_X11_by
  refine j_iload_n 1 dX11_by_0 rfl rfl ?_
  refine j_iconst dX11_by_1 ?_
  refine j_icmp_eq (tgt := 18) h1 (j_r32 (-1) rfl) dX11_by_2 rfl (fun _ => ?_) (fun _ => ?_)
  · exact p_f_X11_by_b18 hd0 a0 a1 S h0 h1
  · refine j_aload_n 0 dX11_by_5 rfl rfl ?_
    refine j_getr (ci := 11) (k := 0) rfl in_X11 (Nat.le_of_ble_eq_true rfl) rfl rfl fl_X11_10 dX11_by_6 (fun (v3 : Int) (hv3 : 0 ≤ v3) => ?_)
    refine j_iload_n 1 dX11_by_9 rfl rfl ?_
    refine j_callV (ci := 10) (As := [(0, a1)]) (st := []) kc_X10_hasText (c_X10_hasText v3 a1 S hv3 h1) rfl lm_X11_152 ki_X10_hasText ke_X10_hasText rfl (Nat.le_of_ble_eq_true rfl) (Nat.le_trans (m := 3) (Nat.le_of_ble_eq_true rfl) hd0) dX11_by_10 (fun (v4 : Int) (S5 : jSt) (hv4 : (v4) = 0 ∨ (v4) = 1) => ?_)
    refine j_if_ne (tgt := 18) (jZ_R hv4) dX11_by_13 rfl (fun _ => ?_) (fun _ => ?_)
    · exact p_f_X11_by_b18 hd0 a0 a1 S5 h0 h1
    · refine j_iconst dX11_by_16 ?_
      exact j_zreturn jz0 dX11_by_17
theorem c_X11_by {G : jG} (a0 : Int) (a1 : Int) (S : jSt) (h0 : 0 ≤ (a0)) (h1 : R32 (a1)) : CT G yX11_by cX11_by 2 (some .boolean) 3 ([(2, a0), (0, a1)].map jval) S (f_X11_by a0 a1 S) := ct_of [(2, a0), (0, a1)] (by decide) rfl (Nat.le_of_ble_eq_true rfl) (e_X11_by (Nat.le_refl _) a0 a1 S h0 h1)
-- X5_canCarry
def f_X5_canCarry_b48 (x0 : Int) (S : jSt) : Option (Int × jSt) :=
  some (x0, S)
theorem p_f_X5_canCarry_b48 {G : jG} {d : Nat} {S0 : jSt} (hd0 : 3 ≤ d) : ∀ (x0 : Int) (S : jSt), ((x0) = 0 ∨ (x0) = 1) → J G yX5_canCarry cX5_canCarry 3 (some .boolean) d S0 48 [] [(0, x0)] S (f_X5_canCarry_b48  x0 S) := by
  intro x0 S h0
  unfold f_X5_canCarry_b48
  exact j_zreturn h0 dX5_canCarry_48
def f_X5_canCarry_b47 (S : jSt) : Option (Int × jSt) :=
  f_X5_canCarry_b48 0 S
theorem p_f_X5_canCarry_b47 {G : jG} {d : Nat} {S0 : jSt} (hd0 : 3 ≤ d) : ∀ (S : jSt), J G yX5_canCarry cX5_canCarry 3 (some .boolean) d S0 47 [] [] S (f_X5_canCarry_b47   S) := by
  intro S
  unfold f_X5_canCarry_b47
  refine j_iconst dX5_canCarry_47 ?_
  exact p_f_X5_canCarry_b48 hd0 0 S jz0
def f_X5_canCarry (a0 : Int) (a1 : Int) (a2 : Int) (S : jSt) : Option (Int × jSt) :=
  fgetr S a0 5 2 (fun v1 => fcallv S v1 10 (f_X10_hasLot v1 a2 S) (fun v2 S3 => if v2 = 0 then f_X5_canCarry_b47 S3 else fgetr S3 a1 1 0 (fun v4 => fald S3 v4 a2 1 (fun v5 => if v5 = 0 then fgetr S3 a1 1 1 (fun v6 => fald S3 v6 a2 1 (fun v7 => fcallv S3 a1 1 (f_X1_saleFloor a1 S3) (fun v8 S9 => if v8 < v7 then f_X5_canCarry_b47 S9 else fgetr S9 a1 1 1 (fun v10 => fald S9 v10 a2 1 (fun v11 => if 5 ≤ v11 then f_X5_canCarry_b47 S9 else f_X5_canCarry_b48 1 S9))))) else f_X5_canCarry_b47 S3))))
theorem e_X5_canCarry {G : jG} {d : Nat} {S0 : jSt} (hd0 : 3 ≤ d) (a0 : Int) (a1 : Int) (a2 : Int) (S : jSt) (h0 : 0 ≤ (a0)) (h1 : 0 ≤ (a1)) (h2 : R32 (a2)) : J G yX5_canCarry cX5_canCarry 3 (some .boolean) d S0 0 [(0, 2, a0), (1, 2, a1), (2, 0, a2)] [] S (f_X5_canCarry a0 a1 a2 S) := by
  unfold f_X5_canCarry
  refine j_aload_n 0 dX5_canCarry_0 rfl rfl ?_
  refine j_getr (ci := 5) (k := 2) rfl in_X5 (Nat.le_of_ble_eq_true rfl) rfl rfl fl_X5_18 dX5_canCarry_1 (fun (v1 : Int) (hv1 : 0 ≤ v1) => ?_)
  refine j_iload_n 2 dX5_canCarry_4 rfl rfl ?_
  refine j_callV (ci := 10) (As := [(0, a2)]) (st := []) kc_X10_hasLot (c_X10_hasLot v1 a2 S hv1 h2) rfl lm_X5_100 ki_X10_hasLot ke_X10_hasLot rfl (Nat.le_of_ble_eq_true rfl) (Nat.le_trans (m := 3) (Nat.le_of_ble_eq_true rfl) hd0) dX5_canCarry_5 (fun (v2 : Int) (S3 : jSt) (hv2 : (v2) = 0 ∨ (v2) = 1) => ?_)
  refine j_if_eq (tgt := 47) (jZ_R hv2) dX5_canCarry_8 rfl (fun _ => ?_) (fun _ => ?_)
  · refine j_sub [] rfl ?_
    exact p_f_X5_canCarry_b47 hd0 S3
  · refine j_aload_n 1 dX5_canCarry_11 rfl rfl ?_
    refine j_getr (ci := 1) (k := 0) rfl in_X1 (Nat.le_of_ble_eq_true rfl) rfl rfl fl_X5_93 dX5_canCarry_12 (fun (v4 : Int) (hv4 : 0 ≤ v4) => ?_)
    refine j_iload_n 2 dX5_canCarry_15 rfl rfl ?_
    refine j_iaload h2 dX5_canCarry_16 (fun (v5 : Int) (hv5 : R32 (v5)) => ?_)
    refine j_if_ne (tgt := 47) hv5 dX5_canCarry_17 rfl (fun _ => ?_) (fun _ => ?_)
    · refine j_sub [] rfl ?_
      exact p_f_X5_canCarry_b47 hd0 S3
    · refine j_aload_n 1 dX5_canCarry_20 rfl rfl ?_
      refine j_getr (ci := 1) (k := 1) rfl in_X1 (Nat.le_of_ble_eq_true rfl) rfl rfl fl_X5_103 dX5_canCarry_21 (fun (v6 : Int) (hv6 : 0 ≤ v6) => ?_)
      refine j_iload_n 2 dX5_canCarry_24 rfl rfl ?_
      refine j_iaload h2 dX5_canCarry_25 (fun (v7 : Int) (hv7 : R32 (v7)) => ?_)
      refine j_aload_n 1 dX5_canCarry_26 rfl rfl ?_
      refine j_callV (ci := 1) (As := []) (st := [(0, v7)]) kc_X1_saleFloor (c_X1_saleFloor a1 S3 h1) rfl lm_X5_106 ki_X1_saleFloor ke_X1_saleFloor rfl (Nat.le_of_ble_eq_true rfl) (Nat.le_trans (m := 3) (Nat.le_of_ble_eq_true rfl) hd0) dX5_canCarry_27 (fun (v8 : Int) (S9 : jSt) (hv8 : R32 (v8)) => ?_)
      refine j_icmp_gt (tgt := 47) hv7 hv8 dX5_canCarry_30 rfl (fun _ => ?_) (fun _ => ?_)
      · refine j_sub [] rfl ?_
        exact p_f_X5_canCarry_b47 hd0 S9
      · refine j_aload_n 1 dX5_canCarry_33 rfl rfl ?_
        refine j_getr (ci := 1) (k := 1) rfl in_X1 (Nat.le_of_ble_eq_true rfl) rfl rfl fl_X5_103 dX5_canCarry_34 (fun (v10 : Int) (hv10 : 0 ≤ v10) => ?_)
        refine j_iload_n 2 dX5_canCarry_37 rfl rfl ?_
        refine j_iaload h2 dX5_canCarry_38 (fun (v11 : Int) (hv11 : R32 (v11)) => ?_)
        refine j_iconst dX5_canCarry_39 ?_
        refine j_icmp_ge (tgt := 47) hv11 (j_r32 5 rfl) dX5_canCarry_40 rfl (fun _ => ?_) (fun _ => ?_)
        · refine j_sub [] rfl ?_
          exact p_f_X5_canCarry_b47 hd0 S9
        · refine j_iconst dX5_canCarry_43 ?_
          refine j_goto (tgt := 48) dX5_canCarry_44 rfl ?_
          refine j_sub [] rfl ?_
          exact p_f_X5_canCarry_b48 hd0 1 S9 jz1
theorem c_X5_canCarry {G : jG} (a0 : Int) (a1 : Int) (a2 : Int) (S : jSt) (h0 : 0 ≤ (a0)) (h1 : 0 ≤ (a1)) (h2 : R32 (a2)) : CT G yX5_canCarry cX5_canCarry 3 (some .boolean) 3 ([(2, a0), (2, a1), (0, a2)].map jval) S (f_X5_canCarry a0 a1 a2 S) := ct_of [(2, a0), (2, a1), (0, a2)] (by decide) rfl (Nat.le_of_ble_eq_true rfl) (e_X5_canCarry (Nat.le_refl _) a0 a1 a2 S h0 h1 h2)
-- X11_carry
def f_X11_carry (a0 : Int) (a1 : Int) (S : jSt) : Option (Int × jSt) :=
  fgetr S a0 11 8 (fun v1 => fgetr S a0 11 1 (fun v2 => fcallv S v1 5 (f_X5_canCarry v1 v2 a1 S) (fun v3 S4 => if v3 = 0 then some (0, S4) else fgetr S4 a0 11 2 (fun v5 => fgetr S4 a0 11 1 (fun v6 => fcallv S4 v5 8 (f_X8_push v5 v6 S4) (fun v7 S8 => fgetr S8 a0 11 1 (fun v9 => fgetr S8 v9 1 1 (fun v10 => fald S8 v10 a1 1 (fun v11 => fast S8 v10 a1 1 (w32 (v11 + 1)) (fun S12 => some (1, S12)))))))))))
theorem e_X11_carry {G : jG} {d : Nat} {S0 : jSt} (hd0 : 4 ≤ d) (a0 : Int) (a1 : Int) (S : jSt) (h0 : 0 ≤ (a0)) (h1 : R32 (a1)) : J G yX11_carry cX11_carry 2 (some .boolean) d S0 0 [(0, 2, a0), (1, 0, a1)] [] S (f_X11_carry a0 a1 S) := by
  unfold f_X11_carry
  refine j_aload_n 0 dX11_carry_0 rfl rfl ?_
  refine j_getr (ci := 11) (k := 8) rfl in_X11 (Nat.le_of_ble_eq_true rfl) rfl rfl fl_X11_60 dX11_carry_1 (fun (v1 : Int) (hv1 : 0 ≤ v1) => ?_)
  refine j_aload_n 0 dX11_carry_4 rfl rfl ?_
  refine j_getr (ci := 11) (k := 1) rfl in_X11 (Nat.le_of_ble_eq_true rfl) rfl rfl fl_X11_19 dX11_carry_5 (fun (v2 : Int) (hv2 : 0 ≤ v2) => ?_)
  refine j_iload_n 1 dX11_carry_8 rfl rfl ?_
  refine j_callV (ci := 5) (As := [(2, v2), (0, a1)]) (st := []) kc_X5_canCarry (c_X5_canCarry v1 v2 a1 S hv1 hv2 h1) rfl lm_X11_176 ki_X5_canCarry ke_X5_canCarry rfl (Nat.le_of_ble_eq_true rfl) (Nat.le_trans (m := 4) (Nat.le_of_ble_eq_true rfl) hd0) dX11_carry_9 (fun (v3 : Int) (S4 : jSt) (hv3 : (v3) = 0 ∨ (v3) = 1) => ?_)
  refine j_if_ne (tgt := 17) (jZ_R hv3) dX11_carry_12 rfl (fun _ => ?_) (fun _ => ?_)
  · refine j_aload_n 0 dX11_carry_17 rfl rfl ?_
    refine j_getr (ci := 11) (k := 2) rfl in_X11 (Nat.le_of_ble_eq_true rfl) rfl rfl fl_X11_26 dX11_carry_18 (fun (v5 : Int) (hv5 : 0 ≤ v5) => ?_)
    refine j_aload_n 0 dX11_carry_21 rfl rfl ?_
    refine j_getr (ci := 11) (k := 1) rfl in_X11 (Nat.le_of_ble_eq_true rfl) rfl rfl fl_X11_19 dX11_carry_22 (fun (v6 : Int) (hv6 : 0 ≤ v6) => ?_)
    refine j_callV (ci := 8) (As := [(2, v6)]) (st := []) kc_X8_push (c_X8_push v5 v6 S4 hv5 hv6) rfl lm_X11_162 ki_X8_push ke_X8_push rfl (Nat.le_of_ble_eq_true rfl) (Nat.le_trans (m := 4) (Nat.le_of_ble_eq_true rfl) hd0) dX11_carry_25 (fun v7 S8 _ => ?_)
    refine j_aload_n 0 dX11_carry_28 rfl rfl ?_
    refine j_getr (ci := 11) (k := 1) rfl in_X11 (Nat.le_of_ble_eq_true rfl) rfl rfl fl_X11_19 dX11_carry_29 (fun (v9 : Int) (hv9 : 0 ≤ v9) => ?_)
    refine j_getr (ci := 1) (k := 1) rfl in_X1 (Nat.le_of_ble_eq_true rfl) rfl rfl fl_X11_91 dX11_carry_32 (fun (v10 : Int) (hv10 : 0 ≤ v10) => ?_)
    refine j_iload_n 1 dX11_carry_35 rfl rfl ?_
    refine j_dup2 dX11_carry_36 (fun h => nomatch h) (fun h => nomatch h) ?_
    refine j_iaload h1 dX11_carry_37 (fun (v11 : Int) (hv11 : R32 (v11)) => ?_)
    refine j_iconst dX11_carry_38 ?_
    refine j_iadd dX11_carry_39 ?_
    refine j_iastore h1 (w32_R _) dX11_carry_40 (fun S12 => ?_)
    refine j_iconst dX11_carry_41 ?_
    exact j_zreturn jz1 dX11_carry_42
  · refine j_iconst dX11_carry_15 ?_
    exact j_zreturn jz0 dX11_carry_16
theorem c_X11_carry {G : jG} (a0 : Int) (a1 : Int) (S : jSt) (h0 : 0 ≤ (a0)) (h1 : R32 (a1)) : CT G yX11_carry cX11_carry 2 (some .boolean) 4 ([(2, a0), (0, a1)].map jval) S (f_X11_carry a0 a1 S) := ct_of [(2, a0), (0, a1)] (by decide) rfl (Nat.le_of_ble_eq_true rfl) (e_X11_carry (Nat.le_refl _) a0 a1 S h0 h1)
-- X7_besideAny
def f_X7_besideAny_b27 (r4 : Int → Int → Int → Int → jSt → Option (Int × jSt)) (x0 : Int) (x1 : Int) (x2 : Int) (x3 : Int) (S : jSt) : Option (Int × jSt) :=
  flet (w32 (x3 + 1)) (fun v1 => r4 x0 x1 x2 v1 S)
theorem p_f_X7_besideAny_b27 {G : jG} {d : Nat} {S0 : jSt} (hd0 : 1 ≤ d) {r4 : Int → Int → Int → Int → jSt → Option (Int × jSt)} (k4 : ∀ (x0 : Int) (x1 : Int) (x2 : Int) (x3 : Int) (S : jSt), (0 ≤ (x0)) → (R32 (x1)) → (R32 (x2)) → (R32 (x3)) → J G yX7_besideAny cX7_besideAny 4 (some .int) d S0 4 [(0, 2, x0), (1, 0, x1), (2, 0, x2), (3, 0, x3)] [] S (r4 x0 x1 x2 x3 S)) : ∀ (x0 : Int) (x1 : Int) (x2 : Int) (x3 : Int) (S : jSt), (0 ≤ (x0)) → (R32 (x1)) → (R32 (x2)) → (R32 (x3)) → J G yX7_besideAny cX7_besideAny 4 (some .int) d S0 27 [(0, 2, x0), (1, 0, x1), (2, 0, x2), (3, 0, x3)] [] S (f_X7_besideAny_b27 r4 x0 x1 x2 x3 S) := by
  intro x0 x1 x2 x3 S h0 h1 h2 h3
  unfold f_X7_besideAny_b27
  refine j_iincL (q := 3) dX7_besideAny_27 rfl (Nat.le_of_ble_eq_true rfl) (fun v1 hv1 => ?_)
  refine j_lv (lv' := [(3, 0, v1), (0, 2, x0), (1, 0, x1), (2, 0, x2)]) rfl ?_
  refine j_goto (tgt := 4) dX7_besideAny_30 rfl ?_
  refine j_sub [1, 2, 3, 0] rfl ?_
  exact k4 x0 x1 x2 v1 S h0 h1 h2 hv1
def f_X7_besideAny_b4B (r4 : Int → Int → Int → Int → jSt → Option (Int × jSt)) (x0 : Int) (x1 : Int) (x2 : Int) (x3 : Int) (S : jSt) : Option (Int × jSt) :=
  if 6 ≤ x3 then some (x2, S) else if (iand32 (ishr32 x1 x3) 1) = 0 then f_X7_besideAny_b27 r4 x0 x1 x2 x3 S else fgetr S x0 7 0 (fun v2 => fald S v2 x3 1 (fun v3 => flet (ior32 x2 v3) (fun v4 => f_X7_besideAny_b27 r4 x0 x1 v4 x3 S)))
theorem p_f_X7_besideAny_b4B {G : jG} {d : Nat} {S0 : jSt} (hd0 : 1 ≤ d) {r4 : Int → Int → Int → Int → jSt → Option (Int × jSt)} (k4 : ∀ (x0 : Int) (x1 : Int) (x2 : Int) (x3 : Int) (S : jSt), (0 ≤ (x0)) → (R32 (x1)) → (R32 (x2)) → (R32 (x3)) → J G yX7_besideAny cX7_besideAny 4 (some .int) d S0 4 [(0, 2, x0), (1, 0, x1), (2, 0, x2), (3, 0, x3)] [] S (r4 x0 x1 x2 x3 S)) : ∀ (x0 : Int) (x1 : Int) (x2 : Int) (x3 : Int) (S : jSt), (0 ≤ (x0)) → (R32 (x1)) → (R32 (x2)) → (R32 (x3)) → J G yX7_besideAny cX7_besideAny 4 (some .int) d S0 4 [(0, 2, x0), (1, 0, x1), (2, 0, x2), (3, 0, x3)] [] S (f_X7_besideAny_b4B r4 x0 x1 x2 x3 S) := by
  intro x0 x1 x2 x3 S h0 h1 h2 h3
  unfold f_X7_besideAny_b4B
  refine j_iload_n 3 dX7_besideAny_4 rfl rfl ?_
  refine j_bipush dX7_besideAny_5 (by decide) ?_
  refine j_icmp_ge (tgt := 33) h3 (j_r32 6 rfl) dX7_besideAny_7 rfl (fun _ => ?_) (fun _ => ?_)
  · refine j_iload_n 2 dX7_besideAny_33 rfl rfl ?_
    exact j_ireturn h2 dX7_besideAny_34
  · refine j_iload_n 1 dX7_besideAny_10 rfl rfl ?_
    refine j_iload_n 3 dX7_besideAny_11 rfl rfl ?_
    refine j_ishr dX7_besideAny_12 ?_
    refine j_iconst dX7_besideAny_13 ?_
    refine j_iand dX7_besideAny_14 ?_
    refine j_if_eq (tgt := 27) (iand32_R _ _) dX7_besideAny_15 rfl (fun _ => ?_) (fun _ => ?_)
    · exact p_f_X7_besideAny_b27 hd0 k4 x0 x1 x2 x3 S h0 h1 h2 h3
    · refine j_iload_n 2 dX7_besideAny_18 rfl rfl ?_
      refine j_aload_n 0 dX7_besideAny_19 rfl rfl ?_
      refine j_getr (ci := 7) (k := 0) rfl in_X7 (Nat.le_of_ble_eq_true rfl) rfl rfl fl_X7_9 dX7_besideAny_20 (fun (v2 : Int) (hv2 : 0 ≤ v2) => ?_)
      refine j_iload_n 3 dX7_besideAny_23 rfl rfl ?_
      refine j_iaload h3 dX7_besideAny_24 (fun (v3 : Int) (hv3 : R32 (v3)) => ?_)
      refine j_ior dX7_besideAny_25 ?_
      refine j_leti (ior32_R _ _) (fun v4 hv4 => ?_)
      refine j_istore_n (lv' := [(2, 0, v4), (0, 2, x0), (1, 0, x1), (3, 0, x3)]) dX7_besideAny_26 rfl (Nat.le_of_ble_eq_true rfl) rfl ?_
      refine j_sub [1, 2, 0, 3] rfl ?_
      exact p_f_X7_besideAny_b27 hd0 k4 x0 x1 v4 x3 S h0 h1 hv4 h3
def f_X7_besideAny_b4 : Int → Int → Int → Int → jSt → Option (Int × jSt) := jrep (β := Int → Int → Int → Int → jSt → Option (Int × jSt)) (fun _ _ _ _ _ => none) (fun r => f_X7_besideAny_b4B r) jN
theorem p_f_X7_besideAny_b4 {G : jG} {d : Nat} {S0 : jSt} (hd0 : 1 ≤ d) : ∀ (x0 : Int) (x1 : Int) (x2 : Int) (x3 : Int) (S : jSt), (0 ≤ (x0)) → (R32 (x1)) → (R32 (x2)) → (R32 (x3)) → J G yX7_besideAny cX7_besideAny 4 (some .int) d S0 4 [(0, 2, x0), (1, 0, x1), (2, 0, x2), (3, 0, x3)] [] S (f_X7_besideAny_b4  x0 x1 x2 x3 S) :=
  jrep_ind (P := fun (r : Int → Int → Int → Int → jSt → Option (Int × jSt)) => ∀ (x0 : Int) (x1 : Int) (x2 : Int) (x3 : Int) (S : jSt), (0 ≤ (x0)) → (R32 (x1)) → (R32 (x2)) → (R32 (x3)) → J G yX7_besideAny cX7_besideAny 4 (some .int) d S0 4 [(0, 2, x0), (1, 0, x1), (2, 0, x2), (3, 0, x3)] [] S (r x0 x1 x2 x3 S)) (by intros; exact j_none) (fun r k => p_f_X7_besideAny_b4B hd0 k) jN
def f_X7_besideAny (a0 : Int) (a1 : Int) (S : jSt) : Option (Int × jSt) :=
  f_X7_besideAny_b4 a0 a1 0 0 S
theorem e_X7_besideAny {G : jG} {d : Nat} {S0 : jSt} (hd0 : 1 ≤ d) (a0 : Int) (a1 : Int) (S : jSt) (h0 : 0 ≤ (a0)) (h1 : R32 (a1)) : J G yX7_besideAny cX7_besideAny 4 (some .int) d S0 0 [(0, 2, a0), (1, 0, a1)] [] S (f_X7_besideAny a0 a1 S) := by
  unfold f_X7_besideAny
  refine j_iconst dX7_besideAny_0 ?_
  refine j_istore_n (lv' := [(2, 0, 0), (0, 2, a0), (1, 0, a1)]) dX7_besideAny_1 rfl (Nat.le_of_ble_eq_true rfl) rfl ?_
  refine j_iconst dX7_besideAny_2 ?_
  refine j_istore_n (lv' := [(3, 0, 0), (2, 0, 0), (0, 2, a0), (1, 0, a1)]) dX7_besideAny_3 rfl (Nat.le_of_ble_eq_true rfl) rfl ?_
  refine j_sub [2, 3, 1, 0] rfl ?_
  exact p_f_X7_besideAny_b4 hd0 a0 a1 0 0 S h0 h1 (jZ_R jz0) (jZ_R jz0)
theorem c_X7_besideAny {G : jG} (a0 : Int) (a1 : Int) (S : jSt) (h0 : 0 ≤ (a0)) (h1 : R32 (a1)) : CT G yX7_besideAny cX7_besideAny 4 (some .int) 1 ([(2, a0), (0, a1)].map jval) S (f_X7_besideAny a0 a1 S) := ct_of [(2, a0), (0, a1)] (by decide) rfl (Nat.le_of_ble_eq_true rfl) (e_X7_besideAny (Nat.le_refl _) a0 a1 S h0 h1)
-- X7_fewest
def f_X7_fewest_b7B (r7 : Int → Int → Int → Int → jSt → Option (Int × jSt)) (x0 : Int) (x1 : Int) (x2 : Int) (x3 : Int) (S : jSt) : Option (Int × jSt) :=
  if 6 ≤ x3 then some ((-1), S) else if (iand32 (ishr32 x2 x1) 1) = 0 then fcallv S x0 7 (f_X7_besideAny x0 x2 S) (fun v2 S3 => flet (ior32 x2 v2) (fun v4 => flet (w32 (x3 + 1)) (fun v5 => r7 x0 x1 v4 v5 S3))) else some (x3, S)
theorem p_f_X7_fewest_b7B {G : jG} {d : Nat} {S0 : jSt} (hd0 : 2 ≤ d) {r7 : Int → Int → Int → Int → jSt → Option (Int × jSt)} (k7 : ∀ (x0 : Int) (x1 : Int) (x2 : Int) (x3 : Int) (S : jSt), (0 ≤ (x0)) → (R32 (x1)) → (R32 (x2)) → (R32 (x3)) → J G yX7_fewest cX7_fewest 5 (some .int) d S0 7 [(0, 2, x0), (2, 0, x1), (3, 0, x2), (4, 0, x3)] [] S (r7 x0 x1 x2 x3 S)) : ∀ (x0 : Int) (x1 : Int) (x2 : Int) (x3 : Int) (S : jSt), (0 ≤ (x0)) → (R32 (x1)) → (R32 (x2)) → (R32 (x3)) → J G yX7_fewest cX7_fewest 5 (some .int) d S0 7 [(0, 2, x0), (2, 0, x1), (3, 0, x2), (4, 0, x3)] [] S (f_X7_fewest_b7B r7 x0 x1 x2 x3 S) := by
  intro x0 x1 x2 x3 S h0 h1 h2 h3
  unfold f_X7_fewest_b7B
  refine j_iload 3 dX7_fewest_7 rfl ?_
  refine j_bipush dX7_fewest_9 (by decide) ?_
  refine j_icmp_ge (tgt := 39) h3 (j_r32 6 rfl) dX7_fewest_11 rfl (fun _ => ?_) (fun _ => ?_)
  · refine j_iconst dX7_fewest_39 ?_
    exact j_ireturn (j_r32 (-1) rfl) dX7_fewest_40
  · refine j_iload_n 2 dX7_fewest_14 rfl rfl ?_
    refine j_iload_n 1 dX7_fewest_15 rfl rfl ?_
    refine j_ishr dX7_fewest_16 ?_
    refine j_iconst dX7_fewest_17 ?_
    refine j_iand dX7_fewest_18 ?_
    refine j_if_eq (tgt := 25) (iand32_R _ _) dX7_fewest_19 rfl (fun _ => ?_) (fun _ => ?_)
    · refine j_iload_n 2 dX7_fewest_25 rfl rfl ?_
      refine j_aload_n 0 dX7_fewest_26 rfl rfl ?_
      refine j_iload_n 2 dX7_fewest_27 rfl rfl ?_
      refine j_callV (ci := 7) (As := [(0, x2)]) (st := [(0, x2)]) kc_X7_besideAny (c_X7_besideAny x0 x2 S h0 h2) rfl lm_X7_15 ki_X7_besideAny ke_X7_besideAny rfl (Nat.le_of_ble_eq_true rfl) (Nat.le_trans (m := 2) (Nat.le_of_ble_eq_true rfl) hd0) dX7_fewest_28 (fun (v2 : Int) (S3 : jSt) (hv2 : R32 (v2)) => ?_)
      refine j_ior dX7_fewest_31 ?_
      refine j_leti (ior32_R _ _) (fun v4 hv4 => ?_)
      refine j_istore_n (lv' := [(3, 0, v4), (0, 2, x0), (2, 0, x1), (4, 0, x3)]) dX7_fewest_32 rfl (Nat.le_of_ble_eq_true rfl) rfl ?_
      refine j_iincL (q := 3) dX7_fewest_33 rfl (Nat.le_of_ble_eq_true rfl) (fun v5 hv5 => ?_)
      refine j_lv (lv' := [(4, 0, v5), (3, 0, v4), (0, 2, x0), (2, 0, x1)]) rfl ?_
      refine j_goto (tgt := 7) dX7_fewest_36 rfl ?_
      refine j_sub [2, 3, 1, 0] rfl ?_
      exact k7 x0 x1 v4 v5 S3 h0 h1 hv4 hv5
    · refine j_iload 3 dX7_fewest_22 rfl ?_
      exact j_ireturn h3 dX7_fewest_24
def f_X7_fewest_b7 : Int → Int → Int → Int → jSt → Option (Int × jSt) := jrep (β := Int → Int → Int → Int → jSt → Option (Int × jSt)) (fun _ _ _ _ _ => none) (fun r => f_X7_fewest_b7B r) jN
theorem p_f_X7_fewest_b7 {G : jG} {d : Nat} {S0 : jSt} (hd0 : 2 ≤ d) : ∀ (x0 : Int) (x1 : Int) (x2 : Int) (x3 : Int) (S : jSt), (0 ≤ (x0)) → (R32 (x1)) → (R32 (x2)) → (R32 (x3)) → J G yX7_fewest cX7_fewest 5 (some .int) d S0 7 [(0, 2, x0), (2, 0, x1), (3, 0, x2), (4, 0, x3)] [] S (f_X7_fewest_b7  x0 x1 x2 x3 S) :=
  jrep_ind (P := fun (r : Int → Int → Int → Int → jSt → Option (Int × jSt)) => ∀ (x0 : Int) (x1 : Int) (x2 : Int) (x3 : Int) (S : jSt), (0 ≤ (x0)) → (R32 (x1)) → (R32 (x2)) → (R32 (x3)) → J G yX7_fewest cX7_fewest 5 (some .int) d S0 7 [(0, 2, x0), (2, 0, x1), (3, 0, x2), (4, 0, x3)] [] S (r x0 x1 x2 x3 S)) (by intros; exact j_none) (fun r k => p_f_X7_fewest_b7B hd0 k) jN
def f_X7_fewest (a0 : Int) (a1 : Int) (a2 : Int) (S : jSt) : Option (Int × jSt) :=
  flet (ishl32 1 a1) (fun v1 => f_X7_fewest_b7 a0 a2 v1 0 S)
theorem e_X7_fewest {G : jG} {d : Nat} {S0 : jSt} (hd0 : 2 ≤ d) (a0 : Int) (a1 : Int) (a2 : Int) (S : jSt) (h0 : 0 ≤ (a0)) (h1 : R32 (a1)) (h2 : R32 (a2)) : J G yX7_fewest cX7_fewest 5 (some .int) d S0 0 [(0, 2, a0), (1, 0, a1), (2, 0, a2)] [] S (f_X7_fewest a0 a1 a2 S) := by
  unfold f_X7_fewest
  refine j_iconst dX7_fewest_0 ?_
  refine j_iload_n 1 dX7_fewest_1 rfl rfl ?_
  refine j_ishl dX7_fewest_2 ?_
  refine j_leti (ishl32_R _ _) (fun v1 hv1 => ?_)
  refine j_istore_n (lv' := [(3, 0, v1), (0, 2, a0), (1, 0, a1), (2, 0, a2)]) dX7_fewest_3 rfl (Nat.le_of_ble_eq_true rfl) rfl ?_
  refine j_iconst dX7_fewest_4 ?_
  refine j_istore (lv' := [(4, 0, 0), (3, 0, v1), (0, 2, a0), (1, 0, a1), (2, 0, a2)]) dX7_fewest_5 (Nat.le_of_ble_eq_true rfl) rfl ?_
  refine j_sub [2, 4, 1, 0] rfl ?_
  exact p_f_X7_fewest_b7 hd0 a0 a2 v1 0 S h0 h2 hv1 (jZ_R jz0)
theorem c_X7_fewest {G : jG} (a0 : Int) (a1 : Int) (a2 : Int) (S : jSt) (h0 : 0 ≤ (a0)) (h1 : R32 (a1)) (h2 : R32 (a2)) : CT G yX7_fewest cX7_fewest 5 (some .int) 2 ([(2, a0), (0, a1), (0, a2)].map jval) S (f_X7_fewest a0 a1 a2 S) := ct_of [(2, a0), (0, a1), (0, a2)] (by decide) rfl (Nat.le_of_ble_eq_true rfl) (e_X7_fewest (Nat.le_refl _) a0 a1 a2 S h0 h1 h2)
-- X11_climb
def f_X11_climb_b18 (S : jSt) : Option (Int × jSt) :=
  some ((-1), S)
theorem p_f_X11_climb_b18 {G : jG} {d : Nat} {S0 : jSt} (hd0 : 3 ≤ d) : ∀ (S : jSt), J G yX11_climb cX11_climb 3 (some .int) d S0 18 [] [] S (f_X11_climb_b18   S) := by
  intro S
  unfold f_X11_climb_b18
  refine j_iconst dX11_climb_18 ?_
  exact j_ireturn (j_r32 (-1) rfl) dX11_climb_19
def f_X11_climb (a0 : Int) (a1 : Int) (a2 : Int) (S : jSt) : Option (Int × jSt) :=
  fcall (f_X11_within a1 0 5 S) (fun v1 S2 => if v1 = 0 then f_X11_climb_b18 S2 else fcall (f_X11_within a2 0 5 S2) (fun v3 S4 => if v3 = 0 then f_X11_climb_b18 S4 else fgetr S4 a0 11 0 (fun v5 => fgetr S4 v5 10 14 (fun v6 => fcallv S4 v6 7 (f_X7_fewest v6 a1 a2 S4) (fun v7 S8 => some (v7, S8))))))
theorem e_X11_climb {G : jG} {d : Nat} {S0 : jSt} (hd0 : 3 ≤ d) (a0 : Int) (a1 : Int) (a2 : Int) (S : jSt) (h0 : 0 ≤ (a0)) (h1 : R32 (a1)) (h2 : R32 (a2)) : J G yX11_climb cX11_climb 3 (some .int) d S0 0 [(0, 2, a0), (1, 0, a1), (2, 0, a2)] [] S (f_X11_climb a0 a1 a2 S) := by
  unfold f_X11_climb
  refine j_iload_n 1 dX11_climb_0 rfl rfl ?_
  refine j_iconst dX11_climb_1 ?_
  refine j_iconst dX11_climb_2 ?_
  refine j_callS (As := [(0, a1), (0, 0), (0, 5)]) (st := []) kc_X11_within (c_X11_within a1 0 5 S h1 (jZ_R jz0) (j_r32 5 rfl)) lm_X11_76 ks_X11_within rfl (Nat.le_of_ble_eq_true rfl) (Nat.le_trans (m := 3) (Nat.le_of_ble_eq_true rfl) hd0) dX11_climb_3 (fun (v1 : Int) (S2 : jSt) (hv1 : (v1) = 0 ∨ (v1) = 1) => ?_)
  refine j_if_eq (tgt := 18) (jZ_R hv1) dX11_climb_6 rfl (fun _ => ?_) (fun _ => ?_)
  · refine j_sub [] rfl ?_
    exact p_f_X11_climb_b18 hd0 S2
  · refine j_iload_n 2 dX11_climb_9 rfl rfl ?_
    refine j_iconst dX11_climb_10 ?_
    refine j_iconst dX11_climb_11 ?_
    refine j_callS (As := [(0, a2), (0, 0), (0, 5)]) (st := []) kc_X11_within (c_X11_within a2 0 5 S2 h2 (jZ_R jz0) (j_r32 5 rfl)) lm_X11_76 ks_X11_within rfl (Nat.le_of_ble_eq_true rfl) (Nat.le_trans (m := 3) (Nat.le_of_ble_eq_true rfl) hd0) dX11_climb_12 (fun (v3 : Int) (S4 : jSt) (hv3 : (v3) = 0 ∨ (v3) = 1) => ?_)
    refine j_if_ne (tgt := 20) (jZ_R hv3) dX11_climb_15 rfl (fun _ => ?_) (fun _ => ?_)
    · refine j_aload_n 0 dX11_climb_20 rfl rfl ?_
      refine j_getr (ci := 11) (k := 0) rfl in_X11 (Nat.le_of_ble_eq_true rfl) rfl rfl fl_X11_10 dX11_climb_21 (fun (v5 : Int) (hv5 : 0 ≤ v5) => ?_)
      refine j_getr (ci := 10) (k := 14) rfl in_X10 (Nat.le_of_ble_eq_true rfl) rfl rfl fl_X11_338 dX11_climb_24 (fun (v6 : Int) (hv6 : 0 ≤ v6) => ?_)
      refine j_iload_n 1 dX11_climb_27 rfl rfl ?_
      refine j_iload_n 2 dX11_climb_28 rfl rfl ?_
      refine j_callV (ci := 7) (As := [(0, a1), (0, a2)]) (st := []) kc_X7_fewest (c_X7_fewest v6 a1 a2 S4 hv6 h1 h2) rfl lm_X11_350 ki_X7_fewest ke_X7_fewest rfl (Nat.le_of_ble_eq_true rfl) (Nat.le_trans (m := 3) (Nat.le_of_ble_eq_true rfl) hd0) dX11_climb_29 (fun (v7 : Int) (S8 : jSt) (hv7 : R32 (v7)) => ?_)
      exact j_ireturn hv7 dX11_climb_32
    · refine j_sub [] rfl ?_
      exact p_f_X11_climb_b18 hd0 S4
theorem c_X11_climb {G : jG} (a0 : Int) (a1 : Int) (a2 : Int) (S : jSt) (h0 : 0 ≤ (a0)) (h1 : R32 (a1)) (h2 : R32 (a2)) : CT G yX11_climb cX11_climb 3 (some .int) 3 ([(2, a0), (0, a1), (0, a2)].map jval) S (f_X11_climb a0 a1 a2 S) := ct_of [(2, a0), (0, a1), (0, a2)] (by decide) rfl (Nat.le_of_ble_eq_true rfl) (e_X11_climb (Nat.le_refl _) a0 a1 a2 S h0 h1 h2)
-- X11_commonDivisor
def f_X11_commonDivisor_b44 (x0 : Int) (S : jSt) : Option (Int × jSt) :=
  some (x0, S)
theorem p_f_X11_commonDivisor_b44 {G : jG} {d : Nat} {S0 : jSt} (hd0 : 1 ≤ d) : ∀ (x0 : Int) (S : jSt), (R64 (x0)) → J G yX11_commonDivisor cX11_commonDivisor 11 (some .long) d S0 44 [(4, 1, x0)] [] S (f_X11_commonDivisor_b44  x0 S) := by
  intro x0 S h0
  unfold f_X11_commonDivisor_b44
  refine j_lload 0 dX11_commonDivisor_44 rfl ?_
  exact j_lreturn h0 dX11_commonDivisor_46
def f_X11_commonDivisor_b9B (r9 : Int → Int → Int → jSt → Option (Int × jSt)) (x0 : Int) (x1 : Int) (x2 : Int) (S : jSt) : Option (Int × jSt) :=
  if 100 ≤ x2 then f_X11_commonDivisor_b44 x0 S else if x1 = 0 then f_X11_commonDivisor_b44 x0 S else if x1 = 0 then none else flet (lrem64 x0 x1) (fun v1 => flet (w32 (x2 + 1)) (fun v2 => r9 x1 v1 v2 S))
theorem p_f_X11_commonDivisor_b9B {G : jG} {d : Nat} {S0 : jSt} (hd0 : 1 ≤ d) {r9 : Int → Int → Int → jSt → Option (Int × jSt)} (k9 : ∀ (x0 : Int) (x1 : Int) (x2 : Int) (S : jSt), (R64 (x0)) → (R64 (x1)) → (R32 (x2)) → J G yX11_commonDivisor cX11_commonDivisor 11 (some .long) d S0 9 [(4, 1, x0), (6, 1, x1), (8, 0, x2)] [] S (r9 x0 x1 x2 S)) : ∀ (x0 : Int) (x1 : Int) (x2 : Int) (S : jSt), (R64 (x0)) → (R64 (x1)) → (R32 (x2)) → J G yX11_commonDivisor cX11_commonDivisor 11 (some .long) d S0 9 [(4, 1, x0), (6, 1, x1), (8, 0, x2)] [] S (f_X11_commonDivisor_b9B r9 x0 x1 x2 S) := by
  intro x0 x1 x2 S h0 h1 h2
  unfold f_X11_commonDivisor_b9B
  refine j_iload 2 dX11_commonDivisor_9 rfl ?_
  refine j_bipush dX11_commonDivisor_11 (by decide) ?_
  refine j_icmp_ge (tgt := 44) h2 (j_r32 100 rfl) dX11_commonDivisor_13 rfl (fun _ => ?_) (fun _ => ?_)
  · refine j_sub [0] rfl ?_
    exact p_f_X11_commonDivisor_b44 hd0 x0 S h0
  · refine j_lload 1 dX11_commonDivisor_16 rfl ?_
    refine j_lconst (z := 0) dX11_commonDivisor_18 rfl ?_
    refine j_lcmp_eq (tgt := 44) h1 (j_r64 0 rfl) dX11_commonDivisor_19 dX11_commonDivisor_20 rfl (fun _ => ?_) (fun _ => ?_)
    · refine j_sub [0] rfl ?_
      exact p_f_X11_commonDivisor_b44 hd0 x0 S h0
    · refine j_lload 0 dX11_commonDivisor_23 rfl ?_
      refine j_lload 1 dX11_commonDivisor_25 rfl ?_
      refine j_lrem h1 dX11_commonDivisor_27 ?_
      refine j_letl (lrem64_R _ _) (fun v1 hv1 => ?_)
      refine j_lstore (lv' := [(9, 1, v1), (4, 1, x0), (6, 1, x1), (8, 0, x2)]) dX11_commonDivisor_28 (Nat.le_of_ble_eq_true rfl) rfl ?_
      refine j_lload 2 dX11_commonDivisor_30 rfl ?_
      refine j_lstore (lv' := [(4, 1, x1), (9, 1, v1), (6, 1, x1), (8, 0, x2)]) dX11_commonDivisor_32 (Nat.le_of_ble_eq_true rfl) rfl ?_
      refine j_lload 1 dX11_commonDivisor_34 rfl ?_
      refine j_lstore (lv' := [(6, 1, v1), (4, 1, x1), (9, 1, v1), (8, 0, x2)]) dX11_commonDivisor_36 (Nat.le_of_ble_eq_true rfl) rfl ?_
      refine j_iincL (q := 3) dX11_commonDivisor_38 rfl (Nat.le_of_ble_eq_true rfl) (fun v2 hv2 => ?_)
      refine j_lv (lv' := [(8, 0, v2), (6, 1, v1), (4, 1, x1), (9, 1, v1)]) rfl ?_
      refine j_goto (tgt := 9) dX11_commonDivisor_41 rfl ?_
      refine j_sub [2, 1, 0] rfl ?_
      exact k9 x1 v1 v2 S h1 hv1 hv2
def f_X11_commonDivisor_b9 : Int → Int → Int → jSt → Option (Int × jSt) := jrep (β := Int → Int → Int → jSt → Option (Int × jSt)) (fun _ _ _ _ => none) (fun r => f_X11_commonDivisor_b9B r) jN
theorem p_f_X11_commonDivisor_b9 {G : jG} {d : Nat} {S0 : jSt} (hd0 : 1 ≤ d) : ∀ (x0 : Int) (x1 : Int) (x2 : Int) (S : jSt), (R64 (x0)) → (R64 (x1)) → (R32 (x2)) → J G yX11_commonDivisor cX11_commonDivisor 11 (some .long) d S0 9 [(4, 1, x0), (6, 1, x1), (8, 0, x2)] [] S (f_X11_commonDivisor_b9  x0 x1 x2 S) :=
  jrep_ind (P := fun (r : Int → Int → Int → jSt → Option (Int × jSt)) => ∀ (x0 : Int) (x1 : Int) (x2 : Int) (S : jSt), (R64 (x0)) → (R64 (x1)) → (R32 (x2)) → J G yX11_commonDivisor cX11_commonDivisor 11 (some .long) d S0 9 [(4, 1, x0), (6, 1, x1), (8, 0, x2)] [] S (r x0 x1 x2 S)) (by intros; exact j_none) (fun r k => p_f_X11_commonDivisor_b9B hd0 k) jN
def f_X11_commonDivisor (a0 : Int) (a1 : Int) (S : jSt) : Option (Int × jSt) :=
  f_X11_commonDivisor_b9 a0 a1 0 S
theorem e_X11_commonDivisor {G : jG} {d : Nat} {S0 : jSt} (hd0 : 1 ≤ d) (a0 : Int) (a1 : Int) (S : jSt) (h0 : R64 (a0)) (h1 : R64 (a1)) : J G yX11_commonDivisor cX11_commonDivisor 11 (some .long) d S0 0 [(0, 1, a0), (2, 1, a1)] [] S (f_X11_commonDivisor a0 a1 S) := by
  unfold f_X11_commonDivisor
  refine j_lload_n 0 dX11_commonDivisor_0 rfl rfl ?_
  refine j_lstore (lv' := [(4, 1, a0), (0, 1, a0), (2, 1, a1)]) dX11_commonDivisor_1 (Nat.le_of_ble_eq_true rfl) rfl ?_
  refine j_lload_n 2 dX11_commonDivisor_3 rfl rfl ?_
  refine j_lstore (lv' := [(6, 1, a1), (4, 1, a0), (0, 1, a0), (2, 1, a1)]) dX11_commonDivisor_4 (Nat.le_of_ble_eq_true rfl) rfl ?_
  refine j_iconst dX11_commonDivisor_6 ?_
  refine j_istore (lv' := [(8, 0, 0), (6, 1, a1), (4, 1, a0), (0, 1, a0), (2, 1, a1)]) dX11_commonDivisor_7 (Nat.le_of_ble_eq_true rfl) rfl ?_
  refine j_sub [2, 1, 0] rfl ?_
  exact p_f_X11_commonDivisor_b9 hd0 a0 a1 0 S h0 h1 (jZ_R jz0)
theorem c_X11_commonDivisor {G : jG} (a0 : Int) (a1 : Int) (S : jSt) (h0 : R64 (a0)) (h1 : R64 (a1)) : CT G yX11_commonDivisor cX11_commonDivisor 11 (some .long) 1 ([(1, a0), (1, a1)].map jval) S (f_X11_commonDivisor a0 a1 S) := ct_of [(1, a0), (1, a1)] (by decide) rfl (Nat.le_of_ble_eq_true rfl) (e_X11_commonDivisor (Nat.le_refl _) a0 a1 S h0 h1)
-- X11_unlikeFloors
def f_X11_unlikeFloors_b28 (x0 : Int) (S : jSt) : Option (Int × jSt) :=
  some (x0, S)
theorem p_f_X11_unlikeFloors_b28 {G : jG} {d : Nat} {S0 : jSt} (hd0 : 2 ≤ d) : ∀ (x0 : Int) (S : jSt), ((x0) = 0 ∨ (x0) = 1) → J G yX11_unlikeFloors cX11_unlikeFloors 2 (some .boolean) d S0 28 [] [(0, x0)] S (f_X11_unlikeFloors_b28  x0 S) := by
  intro x0 S h0
  unfold f_X11_unlikeFloors_b28
  exact j_zreturn h0 dX11_unlikeFloors_28
def f_X11_unlikeFloors_b27 (S : jSt) : Option (Int × jSt) :=
  f_X11_unlikeFloors_b28 0 S
theorem p_f_X11_unlikeFloors_b27 {G : jG} {d : Nat} {S0 : jSt} (hd0 : 2 ≤ d) : ∀ (S : jSt), J G yX11_unlikeFloors cX11_unlikeFloors 2 (some .boolean) d S0 27 [] [] S (f_X11_unlikeFloors_b27   S) := by
  intro S
  unfold f_X11_unlikeFloors_b27
  refine j_iconst dX11_unlikeFloors_27 ?_
  exact p_f_X11_unlikeFloors_b28 hd0 0 S jz0
def f_X11_unlikeFloors (a0 : Int) (a1 : Int) (S : jSt) : Option (Int × jSt) :=
  if a0 = a1 then f_X11_unlikeFloors_b27 S else fcall (f_X11_within a0 0 5 S) (fun v1 S2 => if v1 = 0 then f_X11_unlikeFloors_b27 S2 else fcall (f_X11_within a1 0 5 S2) (fun v3 S4 => if v3 = 0 then f_X11_unlikeFloors_b27 S4 else f_X11_unlikeFloors_b28 1 S4))
theorem e_X11_unlikeFloors {G : jG} {d : Nat} {S0 : jSt} (hd0 : 2 ≤ d) (a0 : Int) (a1 : Int) (S : jSt) (h0 : R32 (a0)) (h1 : R32 (a1)) : J G yX11_unlikeFloors cX11_unlikeFloors 2 (some .boolean) d S0 0 [(0, 0, a0), (1, 0, a1)] [] S (f_X11_unlikeFloors a0 a1 S) := by
  unfold f_X11_unlikeFloors
  refine j_iload_n 0 dX11_unlikeFloors_0 rfl rfl ?_
  refine j_iload_n 1 dX11_unlikeFloors_1 rfl rfl ?_
  refine j_icmp_eq (tgt := 27) h0 h1 dX11_unlikeFloors_2 rfl (fun _ => ?_) (fun _ => ?_)
  · refine j_sub [] rfl ?_
    exact p_f_X11_unlikeFloors_b27 hd0 S
  · refine j_iload_n 0 dX11_unlikeFloors_5 rfl rfl ?_
    refine j_iconst dX11_unlikeFloors_6 ?_
    refine j_iconst dX11_unlikeFloors_7 ?_
    refine j_callS (As := [(0, a0), (0, 0), (0, 5)]) (st := []) kc_X11_within (c_X11_within a0 0 5 S h0 (jZ_R jz0) (j_r32 5 rfl)) lm_X11_76 ks_X11_within rfl (Nat.le_of_ble_eq_true rfl) (Nat.le_trans (m := 2) (Nat.le_of_ble_eq_true rfl) hd0) dX11_unlikeFloors_8 (fun (v1 : Int) (S2 : jSt) (hv1 : (v1) = 0 ∨ (v1) = 1) => ?_)
    refine j_if_eq (tgt := 27) (jZ_R hv1) dX11_unlikeFloors_11 rfl (fun _ => ?_) (fun _ => ?_)
    · refine j_sub [] rfl ?_
      exact p_f_X11_unlikeFloors_b27 hd0 S2
    · refine j_iload_n 1 dX11_unlikeFloors_14 rfl rfl ?_
      refine j_iconst dX11_unlikeFloors_15 ?_
      refine j_iconst dX11_unlikeFloors_16 ?_
      refine j_callS (As := [(0, a1), (0, 0), (0, 5)]) (st := []) kc_X11_within (c_X11_within a1 0 5 S2 h1 (jZ_R jz0) (j_r32 5 rfl)) lm_X11_76 ks_X11_within rfl (Nat.le_of_ble_eq_true rfl) (Nat.le_trans (m := 2) (Nat.le_of_ble_eq_true rfl) hd0) dX11_unlikeFloors_17 (fun (v3 : Int) (S4 : jSt) (hv3 : (v3) = 0 ∨ (v3) = 1) => ?_)
      refine j_if_eq (tgt := 27) (jZ_R hv3) dX11_unlikeFloors_20 rfl (fun _ => ?_) (fun _ => ?_)
      · refine j_sub [] rfl ?_
        exact p_f_X11_unlikeFloors_b27 hd0 S4
      · refine j_iconst dX11_unlikeFloors_23 ?_
        refine j_goto (tgt := 28) dX11_unlikeFloors_24 rfl ?_
        refine j_sub [] rfl ?_
        exact p_f_X11_unlikeFloors_b28 hd0 1 S4 jz1
theorem c_X11_unlikeFloors {G : jG} (a0 : Int) (a1 : Int) (S : jSt) (h0 : R32 (a0)) (h1 : R32 (a1)) : CT G yX11_unlikeFloors cX11_unlikeFloors 2 (some .boolean) 2 ([(0, a0), (0, a1)].map jval) S (f_X11_unlikeFloors a0 a1 S) := ct_of [(0, a0), (0, a1)] (by decide) rfl (Nat.le_of_ble_eq_true rfl) (e_X11_unlikeFloors (Nat.le_refl _) a0 a1 S h0 h1)
-- X11_cut
def f_X11_cut_b24 (x0 : Int) (S : jSt) : Option (Int × jSt) :=
  some (x0, S)
theorem p_f_X11_cut_b24 {G : jG} {d : Nat} {S0 : jSt} (hd0 : 4 ≤ d) : ∀ (x0 : Int) (S : jSt), (R32 (x0)) → J G yX11_cut cX11_cut 3 (some .int) d S0 24 [] [(0, x0)] S (f_X11_cut_b24  x0 S) := by
  intro x0 S h0
  unfold f_X11_cut_b24
  exact j_ireturn h0 dX11_cut_24
def f_X11_cut (a0 : Int) (a1 : Int) (a2 : Int) (S : jSt) : Option (Int × jSt) :=
  fcall (f_X11_unlikeFloors a1 a2 S) (fun v1 S2 => if v1 = 0 then f_X11_cut_b24 (-1) S2 else fgetr S2 a0 11 0 (fun v3 => fgetr S2 v3 10 14 (fun v4 => fcallv S2 v4 7 (f_X7_leastCut v4 a1 a2 S2) (fun v5 S6 => f_X11_cut_b24 v5 S6))))
theorem e_X11_cut {G : jG} {d : Nat} {S0 : jSt} (hd0 : 4 ≤ d) (a0 : Int) (a1 : Int) (a2 : Int) (S : jSt) (h0 : 0 ≤ (a0)) (h1 : R32 (a1)) (h2 : R32 (a2)) : J G yX11_cut cX11_cut 3 (some .int) d S0 0 [(0, 2, a0), (1, 0, a1), (2, 0, a2)] [] S (f_X11_cut a0 a1 a2 S) := by
  unfold f_X11_cut
  refine j_iload_n 1 dX11_cut_0 rfl rfl ?_
  refine j_iload_n 2 dX11_cut_1 rfl rfl ?_
  refine j_callS (As := [(0, a1), (0, a2)]) (st := []) kc_X11_unlikeFloors (c_X11_unlikeFloors a1 a2 S h1 h2) lm_X11_335 ks_X11_unlikeFloors rfl (Nat.le_of_ble_eq_true rfl) (Nat.le_trans (m := 4) (Nat.le_of_ble_eq_true rfl) hd0) dX11_cut_2 (fun (v1 : Int) (S2 : jSt) (hv1 : (v1) = 0 ∨ (v1) = 1) => ?_)
  refine j_if_eq (tgt := 23) (jZ_R hv1) dX11_cut_5 rfl (fun _ => ?_) (fun _ => ?_)
  · refine j_iconst dX11_cut_23 ?_
    refine j_sub [] rfl ?_
    exact p_f_X11_cut_b24 hd0 (-1) S2 (j_r32 (-1) rfl)
  · refine j_aload_n 0 dX11_cut_8 rfl rfl ?_
    refine j_getr (ci := 11) (k := 0) rfl in_X11 (Nat.le_of_ble_eq_true rfl) rfl rfl fl_X11_10 dX11_cut_9 (fun (v3 : Int) (hv3 : 0 ≤ v3) => ?_)
    refine j_getr (ci := 10) (k := 14) rfl in_X10 (Nat.le_of_ble_eq_true rfl) rfl rfl fl_X11_338 dX11_cut_12 (fun (v4 : Int) (hv4 : 0 ≤ v4) => ?_)
    refine j_iload_n 1 dX11_cut_15 rfl rfl ?_
    refine j_iload_n 2 dX11_cut_16 rfl rfl ?_
    refine j_callV (ci := 7) (As := [(0, a1), (0, a2)]) (st := []) kc_X7_leastCut (c_X7_leastCut v4 a1 a2 S2 hv4 h1 h2) rfl lm_X11_353 ki_X7_leastCut ke_X7_leastCut rfl (Nat.le_of_ble_eq_true rfl) (Nat.le_trans (m := 4) (Nat.le_of_ble_eq_true rfl) hd0) dX11_cut_17 (fun (v5 : Int) (S6 : jSt) (hv5 : R32 (v5)) => ?_)
    refine j_goto (tgt := 24) dX11_cut_20 rfl ?_
    refine j_sub [] rfl ?_
    exact p_f_X11_cut_b24 hd0 v5 S6 hv5
theorem c_X11_cut {G : jG} (a0 : Int) (a1 : Int) (a2 : Int) (S : jSt) (h0 : 0 ≤ (a0)) (h1 : R32 (a1)) (h2 : R32 (a2)) : CT G yX11_cut cX11_cut 3 (some .int) 4 ([(2, a0), (0, a1), (0, a2)].map jval) S (f_X11_cut a0 a1 a2 S) := ct_of [(2, a0), (0, a1), (0, a2)] (by decide) rfl (Nat.le_of_ble_eq_true rfl) (e_X11_cut (Nat.le_refl _) a0 a1 a2 S h0 h1 h2)
-- X11_dearest
def f_X11_dearest_b50 (r6 : Int → Int → Int → Int → jSt → Option (Int × jSt)) (x0 : Int) (x1 : Int) (x2 : Int) (x3 : Int) (S : jSt) : Option (Int × jSt) :=
  flet (w32 (x3 + 1)) (fun v9 => r6 x0 x1 x2 v9 S)
theorem p_f_X11_dearest_b50 {G : jG} {d : Nat} {S0 : jSt} (hd0 : 5 ≤ d) {r6 : Int → Int → Int → Int → jSt → Option (Int × jSt)} (k6 : ∀ (x0 : Int) (x1 : Int) (x2 : Int) (x3 : Int) (S : jSt), (0 ≤ (x0)) → (R32 (x1)) → (R32 (x2)) → (R32 (x3)) → J G yX11_dearest cX11_dearest 4 (some .int) d S0 6 [(0, 2, x0), (1, 0, x1), (2, 0, x2), (3, 0, x3)] [] S (r6 x0 x1 x2 x3 S)) : ∀ (x0 : Int) (x1 : Int) (x2 : Int) (x3 : Int) (S : jSt), (0 ≤ (x0)) → (R32 (x1)) → (R32 (x2)) → (R32 (x3)) → J G yX11_dearest cX11_dearest 4 (some .int) d S0 50 [(0, 2, x0), (1, 0, x1), (2, 0, x2), (3, 0, x3)] [] S (f_X11_dearest_b50 r6 x0 x1 x2 x3 S) := by
  intro x0 x1 x2 x3 S h0 h1 h2 h3
  unfold f_X11_dearest_b50
  refine j_iincL (q := 3) dX11_dearest_50 rfl (Nat.le_of_ble_eq_true rfl) (fun v9 hv9 => ?_)
  refine j_lv (lv' := [(3, 0, v9), (0, 2, x0), (1, 0, x1), (2, 0, x2)]) rfl ?_
  refine j_goto (tgt := 6) dX11_dearest_53 rfl ?_
  refine j_sub [1, 2, 3, 0] rfl ?_
  exact k6 x0 x1 x2 v9 S h0 h1 h2 hv9
def f_X11_dearest_b6B (r6 : Int → Int → Int → Int → jSt → Option (Int × jSt)) (x0 : Int) (x1 : Int) (x2 : Int) (x3 : Int) (S : jSt) : Option (Int × jSt) :=
  fgetr S x0 11 0 (fun v1 => fget S v1 10 0 (fun v2 => if v2 ≤ x3 then some (x1, S) else fgetr S x0 11 8 (fun v3 => fgetr S x0 11 1 (fun v4 => fcallv S v3 5 (f_X5_findWinner v3 v4 x3 S) (fun v5 S6 => fgetr S6 x0 11 8 (fun v7 => fget S6 v7 5 1 (fun v8 => if v8 ≤ x2 then f_X11_dearest_b50 r6 x0 x1 x2 x3 S6 else fgetr S6 x0 11 8 (fun v10 => fget S6 v10 5 1 (fun v11 => f_X11_dearest_b50 r6 x0 x3 v11 x3 S6)))))))))
theorem p_f_X11_dearest_b6B {G : jG} {d : Nat} {S0 : jSt} (hd0 : 5 ≤ d) {r6 : Int → Int → Int → Int → jSt → Option (Int × jSt)} (k6 : ∀ (x0 : Int) (x1 : Int) (x2 : Int) (x3 : Int) (S : jSt), (0 ≤ (x0)) → (R32 (x1)) → (R32 (x2)) → (R32 (x3)) → J G yX11_dearest cX11_dearest 4 (some .int) d S0 6 [(0, 2, x0), (1, 0, x1), (2, 0, x2), (3, 0, x3)] [] S (r6 x0 x1 x2 x3 S)) : ∀ (x0 : Int) (x1 : Int) (x2 : Int) (x3 : Int) (S : jSt), (0 ≤ (x0)) → (R32 (x1)) → (R32 (x2)) → (R32 (x3)) → J G yX11_dearest cX11_dearest 4 (some .int) d S0 6 [(0, 2, x0), (1, 0, x1), (2, 0, x2), (3, 0, x3)] [] S (f_X11_dearest_b6B r6 x0 x1 x2 x3 S) := by
  intro x0 x1 x2 x3 S h0 h1 h2 h3
  unfold f_X11_dearest_b6B
  refine j_iload_n 3 dX11_dearest_6 rfl rfl ?_
  refine j_aload_n 0 dX11_dearest_7 rfl rfl ?_
  refine j_getr (ci := 11) (k := 0) rfl in_X11 (Nat.le_of_ble_eq_true rfl) rfl rfl fl_X11_10 dX11_dearest_8 (fun (v1 : Int) (hv1 : 0 ≤ v1) => ?_)
  refine j_get (ci := 10) (k := 0) (t := 0) rfl in_X10 (Nat.le_of_ble_eq_true rfl) rfl rfl fl_X11_80 dX11_dearest_11 (fun (v2 : Int) (hv2 : R32 (v2)) => ?_)
  refine j_icmp_ge (tgt := 56) h3 hv2 dX11_dearest_14 rfl (fun _ => ?_) (fun _ => ?_)
  · refine j_iload_n 1 dX11_dearest_56 rfl rfl ?_
    exact j_ireturn h1 dX11_dearest_57
  · refine j_aload_n 0 dX11_dearest_17 rfl rfl ?_
    refine j_getr (ci := 11) (k := 8) rfl in_X11 (Nat.le_of_ble_eq_true rfl) rfl rfl fl_X11_60 dX11_dearest_18 (fun (v3 : Int) (hv3 : 0 ≤ v3) => ?_)
    refine j_aload_n 0 dX11_dearest_21 rfl rfl ?_
    refine j_getr (ci := 11) (k := 1) rfl in_X11 (Nat.le_of_ble_eq_true rfl) rfl rfl fl_X11_19 dX11_dearest_22 (fun (v4 : Int) (hv4 : 0 ≤ v4) => ?_)
    refine j_iload_n 3 dX11_dearest_25 rfl rfl ?_
    refine j_callV (ci := 5) (As := [(2, v4), (0, x3)]) (st := []) kc_X5_findWinner (c_X5_findWinner v3 v4 x3 S hv3 hv4 h3) rfl lm_X11_166 ki_X5_findWinner ke_X5_findWinner rfl (Nat.le_of_ble_eq_true rfl) (Nat.le_trans (m := 5) (Nat.le_of_ble_eq_true rfl) hd0) dX11_dearest_26 (fun v5 S6 _ => ?_)
    refine j_aload_n 0 dX11_dearest_29 rfl rfl ?_
    refine j_getr (ci := 11) (k := 8) rfl in_X11 (Nat.le_of_ble_eq_true rfl) rfl rfl fl_X11_60 dX11_dearest_30 (fun (v7 : Int) (hv7 : 0 ≤ v7) => ?_)
    refine j_get (ci := 5) (k := 1) (t := 0) rfl in_X5 (Nat.le_of_ble_eq_true rfl) rfl rfl fl_X11_173 dX11_dearest_33 (fun (v8 : Int) (hv8 : R32 (v8)) => ?_)
    refine j_iload_n 2 dX11_dearest_36 rfl rfl ?_
    refine j_icmp_le (tgt := 50) hv8 h2 dX11_dearest_37 rfl (fun _ => ?_) (fun _ => ?_)
    · exact p_f_X11_dearest_b50 hd0 k6 x0 x1 x2 x3 S6 h0 h1 h2 h3
    · refine j_aload_n 0 dX11_dearest_40 rfl rfl ?_
      refine j_getr (ci := 11) (k := 8) rfl in_X11 (Nat.le_of_ble_eq_true rfl) rfl rfl fl_X11_60 dX11_dearest_41 (fun (v10 : Int) (hv10 : 0 ≤ v10) => ?_)
      refine j_get (ci := 5) (k := 1) (t := 0) rfl in_X5 (Nat.le_of_ble_eq_true rfl) rfl rfl fl_X11_173 dX11_dearest_44 (fun (v11 : Int) (hv11 : R32 (v11)) => ?_)
      refine j_istore_n (lv' := [(2, 0, v11), (0, 2, x0), (1, 0, x1), (3, 0, x3)]) dX11_dearest_47 rfl (Nat.le_of_ble_eq_true rfl) rfl ?_
      refine j_iload_n 3 dX11_dearest_48 rfl rfl ?_
      refine j_istore_n (lv' := [(1, 0, x3), (2, 0, v11), (0, 2, x0), (3, 0, x3)]) dX11_dearest_49 rfl (Nat.le_of_ble_eq_true rfl) rfl ?_
      refine j_sub [2, 0, 1, 3] rfl ?_
      exact p_f_X11_dearest_b50 hd0 k6 x0 x3 v11 x3 S6 h0 h3 hv11 h3
def f_X11_dearest_b6 : Int → Int → Int → Int → jSt → Option (Int × jSt) := jrep (β := Int → Int → Int → Int → jSt → Option (Int × jSt)) (fun _ _ _ _ _ => none) (fun r => f_X11_dearest_b6B r) jN
theorem p_f_X11_dearest_b6 {G : jG} {d : Nat} {S0 : jSt} (hd0 : 5 ≤ d) : ∀ (x0 : Int) (x1 : Int) (x2 : Int) (x3 : Int) (S : jSt), (0 ≤ (x0)) → (R32 (x1)) → (R32 (x2)) → (R32 (x3)) → J G yX11_dearest cX11_dearest 4 (some .int) d S0 6 [(0, 2, x0), (1, 0, x1), (2, 0, x2), (3, 0, x3)] [] S (f_X11_dearest_b6  x0 x1 x2 x3 S) :=
  jrep_ind (P := fun (r : Int → Int → Int → Int → jSt → Option (Int × jSt)) => ∀ (x0 : Int) (x1 : Int) (x2 : Int) (x3 : Int) (S : jSt), (0 ≤ (x0)) → (R32 (x1)) → (R32 (x2)) → (R32 (x3)) → J G yX11_dearest cX11_dearest 4 (some .int) d S0 6 [(0, 2, x0), (1, 0, x1), (2, 0, x2), (3, 0, x3)] [] S (r x0 x1 x2 x3 S)) (by intros; exact j_none) (fun r k => p_f_X11_dearest_b6B hd0 k) jN
def f_X11_dearest (a0 : Int) (S : jSt) : Option (Int × jSt) :=
  f_X11_dearest_b6 a0 (-1) 0 0 S
theorem e_X11_dearest {G : jG} {d : Nat} {S0 : jSt} (hd0 : 5 ≤ d) (a0 : Int) (S : jSt) (h0 : 0 ≤ (a0)) : J G yX11_dearest cX11_dearest 4 (some .int) d S0 0 [(0, 2, a0)] [] S (f_X11_dearest a0 S) := by
  unfold f_X11_dearest
  refine j_iconst dX11_dearest_0 ?_
  refine j_istore_n (lv' := [(1, 0, (-1)), (0, 2, a0)]) dX11_dearest_1 rfl (Nat.le_of_ble_eq_true rfl) rfl ?_
  refine j_iconst dX11_dearest_2 ?_
  refine j_istore_n (lv' := [(2, 0, 0), (1, 0, (-1)), (0, 2, a0)]) dX11_dearest_3 rfl (Nat.le_of_ble_eq_true rfl) rfl ?_
  refine j_iconst dX11_dearest_4 ?_
  refine j_istore_n (lv' := [(3, 0, 0), (2, 0, 0), (1, 0, (-1)), (0, 2, a0)]) dX11_dearest_5 rfl (Nat.le_of_ble_eq_true rfl) rfl ?_
  refine j_sub [3, 2, 1, 0] rfl ?_
  exact p_f_X11_dearest_b6 hd0 a0 (-1) 0 0 S h0 (j_r32 (-1) rfl) (jZ_R jz0) (jZ_R jz0)
theorem c_X11_dearest {G : jG} (a0 : Int) (S : jSt) (h0 : 0 ≤ (a0)) : CT G yX11_dearest cX11_dearest 4 (some .int) 5 ([(2, a0)].map jval) S (f_X11_dearest a0 S) := ct_of [(2, a0)] (by decide) rfl (Nat.le_of_ble_eq_true rfl) (e_X11_dearest (Nat.le_refl _) a0 S h0)
-- X11_end
def f_X11_end (a0 : Int) (a1 : Int) (S : jSt) : Option (Int × jSt) :=
  fgetr S a0 11 6 (fun v1 => fget S v1 9 0 (fun v2 => fcall (f_X11_within a1 0 v2 S) (fun v3 S4 => if v3 = 0 then some ((-1), S4) else fgetr S4 a0 11 6 (fun v5 => fput S4 v5 9 0 a1 (fun S6 => some (a1, S6))))))
theorem e_X11_end {G : jG} {d : Nat} {S0 : jSt} (hd0 : 2 ≤ d) (a0 : Int) (a1 : Int) (S : jSt) (h0 : 0 ≤ (a0)) (h1 : R32 (a1)) : J G yX11_end cX11_end 2 (some .int) d S0 0 [(0, 2, a0), (1, 0, a1)] [] S (f_X11_end a0 a1 S) := by
  unfold f_X11_end
  refine j_iload_n 1 dX11_end_0 rfl rfl ?_
  refine j_iconst dX11_end_1 ?_
  refine j_aload_n 0 dX11_end_2 rfl rfl ?_
  refine j_getr (ci := 11) (k := 6) rfl in_X11 (Nat.le_of_ble_eq_true rfl) rfl rfl fl_X11_42 dX11_end_3 (fun (v1 : Int) (hv1 : 0 ≤ v1) => ?_)
  refine j_get (ci := 9) (k := 0) (t := 0) rfl in_X9 (Nat.le_of_ble_eq_true rfl) rfl rfl fl_X11_124 dX11_end_6 (fun (v2 : Int) (hv2 : R32 (v2)) => ?_)
  refine j_callS (As := [(0, a1), (0, 0), (0, v2)]) (st := []) kc_X11_within (c_X11_within a1 0 v2 S h1 (jZ_R jz0) hv2) lm_X11_76 ks_X11_within rfl (Nat.le_of_ble_eq_true rfl) (Nat.le_trans (m := 2) (Nat.le_of_ble_eq_true rfl) hd0) dX11_end_9 (fun (v3 : Int) (S4 : jSt) (hv3 : (v3) = 0 ∨ (v3) = 1) => ?_)
  refine j_if_ne (tgt := 17) (jZ_R hv3) dX11_end_12 rfl (fun _ => ?_) (fun _ => ?_)
  · refine j_aload_n 0 dX11_end_17 rfl rfl ?_
    refine j_getr (ci := 11) (k := 6) rfl in_X11 (Nat.le_of_ble_eq_true rfl) rfl rfl fl_X11_42 dX11_end_18 (fun (v5 : Int) (hv5 : 0 ≤ v5) => ?_)
    refine j_iload_n 1 dX11_end_21 rfl rfl ?_
    refine j_puti (ci := 9) (k := 0) (ty0 := tyX9) rfl in_X9 (Nat.le_of_ble_eq_true rfl) rfl tyX9_ok nmX9 rfl rfl (by decide +kernel) h1 fl_X11_124 dX11_end_22 (fun S6 => ?_)
    refine j_iload_n 1 dX11_end_25 rfl rfl ?_
    exact j_ireturn h1 dX11_end_26
  · refine j_iconst dX11_end_15 ?_
    exact j_ireturn (j_r32 (-1) rfl) dX11_end_16
theorem c_X11_end {G : jG} (a0 : Int) (a1 : Int) (S : jSt) (h0 : 0 ≤ (a0)) (h1 : R32 (a1)) : CT G yX11_end cX11_end 2 (some .int) 2 ([(2, a0), (0, a1)].map jval) S (f_X11_end a0 a1 S) := ct_of [(2, a0), (0, a1)] (by decide) rfl (Nat.le_of_ble_eq_true rfl) (e_X11_end (Nat.le_refl _) a0 a1 S h0 h1)
-- X11_fault
def f_X11_fault_b28 (x0 : Int) (S : jSt) : Option (Int × jSt) :=
  some (x0, S)
theorem p_f_X11_fault_b28 {G : jG} {d : Nat} {S0 : jSt} (hd0 : 1 ≤ d) : ∀ (x0 : Int) (S : jSt), (R32 (x0)) → J G yX11_fault cX11_fault 2 (some .int) d S0 28 [] [(0, x0)] S (f_X11_fault_b28  x0 S) := by
  intro x0 S h0
  unfold f_X11_fault_b28
  exact j_ireturn h0 dX11_fault_28
def f_X11_fault (a0 : Int) (a1 : Int) (S : jSt) : Option (Int × jSt) :=
  if a1 = 0 then fgetr S a0 11 7 (fun v3 => fget S v3 4 0 (fun v4 => some (v4, S))) else if a1 = 1 then fgetr S a0 11 7 (fun v1 => fget S v1 4 1 (fun v2 => f_X11_fault_b28 v2 S)) else f_X11_fault_b28 (-1) S
theorem e_X11_fault {G : jG} {d : Nat} {S0 : jSt} (hd0 : 1 ≤ d) (a0 : Int) (a1 : Int) (S : jSt) (h0 : 0 ≤ (a0)) (h1 : R32 (a1)) : J G yX11_fault cX11_fault 2 (some .int) d S0 0 [(0, 2, a0), (1, 0, a1)] [] S (f_X11_fault a0 a1 S) := by
  unfold f_X11_fault
  refine j_iload_n 1 dX11_fault_0 rfl rfl ?_
  refine j_if_ne (tgt := 12) h1 dX11_fault_1 rfl (fun _ => ?_) (fun _ => ?_)
  · refine j_iload_n 1 dX11_fault_12 rfl rfl ?_
    refine j_iconst dX11_fault_13 ?_
    refine j_icmp_ne (tgt := 27) h1 (jZ_R jz1) dX11_fault_14 rfl (fun _ => ?_) (fun _ => ?_)
    · refine j_iconst dX11_fault_27 ?_
      refine j_sub [] rfl ?_
      exact p_f_X11_fault_b28 hd0 (-1) S (j_r32 (-1) rfl)
    · refine j_aload_n 0 dX11_fault_17 rfl rfl ?_
      refine j_getr (ci := 11) (k := 7) rfl in_X11 (Nat.le_of_ble_eq_true rfl) rfl rfl fl_X11_51 dX11_fault_18 (fun (v1 : Int) (hv1 : 0 ≤ v1) => ?_)
      refine j_get (ci := 4) (k := 1) (t := 0) rfl in_X4 (Nat.le_of_ble_eq_true rfl) rfl rfl fl_X11_149 dX11_fault_21 (fun (v2 : Int) (hv2 : R32 (v2)) => ?_)
      refine j_goto (tgt := 28) dX11_fault_24 rfl ?_
      refine j_sub [] rfl ?_
      exact p_f_X11_fault_b28 hd0 v2 S hv2
  · refine j_aload_n 0 dX11_fault_4 rfl rfl ?_
    refine j_getr (ci := 11) (k := 7) rfl in_X11 (Nat.le_of_ble_eq_true rfl) rfl rfl fl_X11_51 dX11_fault_5 (fun (v3 : Int) (hv3 : 0 ≤ v3) => ?_)
    refine j_get (ci := 4) (k := 0) (t := 0) rfl in_X4 (Nat.le_of_ble_eq_true rfl) rfl rfl fl_X11_146 dX11_fault_8 (fun (v4 : Int) (hv4 : R32 (v4)) => ?_)
    exact j_ireturn hv4 dX11_fault_11
theorem c_X11_fault {G : jG} (a0 : Int) (a1 : Int) (S : jSt) (h0 : 0 ≤ (a0)) (h1 : R32 (a1)) : CT G yX11_fault cX11_fault 2 (some .int) 1 ([(2, a0), (0, a1)].map jval) S (f_X11_fault a0 a1 S) := ct_of [(2, a0), (0, a1)] (by decide) rfl (Nat.le_of_ble_eq_true rfl) (e_X11_fault (Nat.le_refl _) a0 a1 S h0 h1)
-- X9_append
def f_X9_append_b49 (S : jSt) : Option (Int × jSt) :=
  some (0, S)
theorem p_f_X9_append_b49 {G : jG} {d : Nat} {S0 : jSt} (hd0 : 1 ≤ d) : ∀ (S : jSt), J G yX9_append cX9_append 3 none d S0 49 [] [] S (f_X9_append_b49   S) := by
  intro S
  unfold f_X9_append_b49
  exact j_return dX9_append_49
def f_X9_append_b3B (r3 : Int → Int → Int → jSt → Option (Int × jSt)) (x0 : Int) (x1 : Int) (x2 : Int) (S : jSt) : Option (Int × jSt) :=
  if x2 < 0 then f_X9_append_b49 S else fget S x0 9 0 (fun v1 => if 300 ≤ v1 then f_X9_append_b49 S else fgetr S x0 9 2 (fun v2 => fget S x0 9 0 (fun v3 => fast S v2 v3 1 (iand32 (ishr32 x1 x2) 255) (fun S4 => fget S4 x0 9 0 (fun v5 => fput S4 x0 9 0 (w32 (v5 + 1)) (fun S6 => flet (w32 (x2 + (-8))) (fun v7 => r3 x0 x1 v7 S6)))))))
theorem p_f_X9_append_b3B {G : jG} {d : Nat} {S0 : jSt} (hd0 : 1 ≤ d) {r3 : Int → Int → Int → jSt → Option (Int × jSt)} (k3 : ∀ (x0 : Int) (x1 : Int) (x2 : Int) (S : jSt), (0 ≤ (x0)) → (R32 (x1)) → (R32 (x2)) → J G yX9_append cX9_append 3 none d S0 3 [(0, 2, x0), (1, 0, x1), (2, 0, x2)] [] S (r3 x0 x1 x2 S)) : ∀ (x0 : Int) (x1 : Int) (x2 : Int) (S : jSt), (0 ≤ (x0)) → (R32 (x1)) → (R32 (x2)) → J G yX9_append cX9_append 3 none d S0 3 [(0, 2, x0), (1, 0, x1), (2, 0, x2)] [] S (f_X9_append_b3B r3 x0 x1 x2 S) := by
  intro x0 x1 x2 S h0 h1 h2
  unfold f_X9_append_b3B
  refine j_iload_n 2 dX9_append_3 rfl rfl ?_
  refine j_if_lt (tgt := 49) h2 dX9_append_4 rfl (fun _ => ?_) (fun _ => ?_)
  · refine j_sub [] rfl ?_
    exact p_f_X9_append_b49 hd0 S
  · refine j_aload_n 0 dX9_append_7 rfl rfl ?_
    refine j_get (ci := 9) (k := 0) (t := 0) rfl in_X9 (Nat.le_of_ble_eq_true rfl) rfl rfl fl_X9_24 dX9_append_8 (fun (v1 : Int) (hv1 : R32 (v1)) => ?_)
    refine j_sipush dX9_append_11 (by decide) ?_
    refine j_icmp_ge (tgt := 49) hv1 (j_r32 300 rfl) dX9_append_14 rfl (fun _ => ?_) (fun _ => ?_)
    · refine j_sub [] rfl ?_
      exact p_f_X9_append_b49 hd0 S
    · refine j_aload_n 0 dX9_append_17 rfl rfl ?_
      refine j_getr (ci := 9) (k := 2) rfl in_X9 (Nat.le_of_ble_eq_true rfl) rfl rfl fl_X9_9 dX9_append_18 (fun (v2 : Int) (hv2 : 0 ≤ v2) => ?_)
      refine j_aload_n 0 dX9_append_21 rfl rfl ?_
      refine j_get (ci := 9) (k := 0) (t := 0) rfl in_X9 (Nat.le_of_ble_eq_true rfl) rfl rfl fl_X9_24 dX9_append_22 (fun (v3 : Int) (hv3 : R32 (v3)) => ?_)
      refine j_iload_n 1 dX9_append_25 rfl rfl ?_
      refine j_iload_n 2 dX9_append_26 rfl rfl ?_
      refine j_ishr dX9_append_27 ?_
      refine j_sipush dX9_append_28 (by decide) ?_
      refine j_iand dX9_append_31 ?_
      refine j_iastore hv3 (iand32_R _ _) dX9_append_32 (fun S4 => ?_)
      refine j_aload_n 0 dX9_append_33 rfl rfl ?_
      refine j_dup dX9_append_34 (fun h => nomatch h) ?_
      refine j_get (ci := 9) (k := 0) (t := 0) rfl in_X9 (Nat.le_of_ble_eq_true rfl) rfl rfl fl_X9_24 dX9_append_35 (fun (v5 : Int) (hv5 : R32 (v5)) => ?_)
      refine j_iconst dX9_append_38 ?_
      refine j_iadd dX9_append_39 ?_
      refine j_puti (ci := 9) (k := 0) (ty0 := tyX9) rfl in_X9 (Nat.le_of_ble_eq_true rfl) rfl tyX9_ok nmX9 rfl rfl (by decide +kernel) (w32_R _) fl_X9_24 dX9_append_40 (fun S6 => ?_)
      refine j_iincL (q := 2) dX9_append_43 rfl (Nat.le_of_ble_eq_true rfl) (fun v7 hv7 => ?_)
      refine j_lv (lv' := [(2, 0, v7), (0, 2, x0), (1, 0, x1)]) rfl ?_
      refine j_goto (tgt := 3) dX9_append_46 rfl ?_
      refine j_sub [1, 2, 0] rfl ?_
      exact k3 x0 x1 v7 S6 h0 h1 hv7
def f_X9_append_b3 : Int → Int → Int → jSt → Option (Int × jSt) := jrep (β := Int → Int → Int → jSt → Option (Int × jSt)) (fun _ _ _ _ => none) (fun r => f_X9_append_b3B r) jN
theorem p_f_X9_append_b3 {G : jG} {d : Nat} {S0 : jSt} (hd0 : 1 ≤ d) : ∀ (x0 : Int) (x1 : Int) (x2 : Int) (S : jSt), (0 ≤ (x0)) → (R32 (x1)) → (R32 (x2)) → J G yX9_append cX9_append 3 none d S0 3 [(0, 2, x0), (1, 0, x1), (2, 0, x2)] [] S (f_X9_append_b3  x0 x1 x2 S) :=
  jrep_ind (P := fun (r : Int → Int → Int → jSt → Option (Int × jSt)) => ∀ (x0 : Int) (x1 : Int) (x2 : Int) (S : jSt), (0 ≤ (x0)) → (R32 (x1)) → (R32 (x2)) → J G yX9_append cX9_append 3 none d S0 3 [(0, 2, x0), (1, 0, x1), (2, 0, x2)] [] S (r x0 x1 x2 S)) (by intros; exact j_none) (fun r k => p_f_X9_append_b3B hd0 k) jN
def f_X9_append (a0 : Int) (a1 : Int) (S : jSt) : Option (Int × jSt) :=
  f_X9_append_b3 a0 a1 24 S
theorem e_X9_append {G : jG} {d : Nat} {S0 : jSt} (hd0 : 1 ≤ d) (a0 : Int) (a1 : Int) (S : jSt) (h0 : 0 ≤ (a0)) (h1 : R32 (a1)) : J G yX9_append cX9_append 3 none d S0 0 [(0, 2, a0), (1, 0, a1)] [] S (f_X9_append a0 a1 S) := by
  unfold f_X9_append
  refine j_bipush dX9_append_0 (by decide) ?_
  refine j_istore_n (lv' := [(2, 0, 24), (0, 2, a0), (1, 0, a1)]) dX9_append_2 rfl (Nat.le_of_ble_eq_true rfl) rfl ?_
  refine j_sub [1, 2, 0] rfl ?_
  exact p_f_X9_append_b3 hd0 a0 a1 24 S h0 h1 (j_r32 24 rfl)
theorem c_X9_append {G : jG} (a0 : Int) (a1 : Int) (S : jSt) (h0 : 0 ≤ (a0)) (h1 : R32 (a1)) : CT G yX9_append cX9_append 3 none 1 ([(2, a0), (0, a1)].map jval) S (f_X9_append a0 a1 S) := ct_of [(2, a0), (0, a1)] (by decide) rfl (Nat.le_of_ble_eq_true rfl) (e_X9_append (Nat.le_refl _) a0 a1 S h0 h1)
-- X11_feed
def f_X11_feed (a0 : Int) (a1 : Int) (a2 : Int) (a3 : Int) (a4 : Int) (a5 : Int) (S : jSt) : Option (Int × jSt) :=
  fgetr S a0 11 6 (fun v1 => fget S v1 9 0 (fun v2 => if (w32 (v2 + 20)) ≤ 300 then fgetr S a0 11 6 (fun v3 => fcallv S v3 9 (f_X9_append v3 a1 S) (fun v4 S5 => fgetr S5 a0 11 6 (fun v6 => fcallv S5 v6 9 (f_X9_append v6 a2 S5) (fun v7 S8 => fgetr S8 a0 11 6 (fun v9 => fcallv S8 v9 9 (f_X9_append v9 a3 S8) (fun v10 S11 => fgetr S11 a0 11 6 (fun v12 => fcallv S11 v12 9 (f_X9_append v12 a4 S11) (fun v13 S14 => fgetr S14 a0 11 6 (fun v15 => fcallv S14 v15 9 (f_X9_append v15 a5 S14) (fun v16 S17 => fgetr S17 a0 11 6 (fun v18 => fget S17 v18 9 0 (fun v19 => some (v19, S17))))))))))))) else some ((-1), S)))
theorem e_X11_feed {G : jG} {d : Nat} {S0 : jSt} (hd0 : 2 ≤ d) (a0 : Int) (a1 : Int) (a2 : Int) (a3 : Int) (a4 : Int) (a5 : Int) (S : jSt) (h0 : 0 ≤ (a0)) (h1 : R32 (a1)) (h2 : R32 (a2)) (h3 : R32 (a3)) (h4 : R32 (a4)) (h5 : R32 (a5)) : J G yX11_feed cX11_feed 6 (some .int) d S0 0 [(0, 2, a0), (1, 0, a1), (2, 0, a2), (3, 0, a3), (4, 0, a4), (5, 0, a5)] [] S (f_X11_feed a0 a1 a2 a3 a4 a5 S) := by
  unfold f_X11_feed
  refine j_aload_n 0 dX11_feed_0 rfl rfl ?_
  refine j_getr (ci := 11) (k := 6) rfl in_X11 (Nat.le_of_ble_eq_true rfl) rfl rfl fl_X11_42 dX11_feed_1 (fun (v1 : Int) (hv1 : 0 ≤ v1) => ?_)
  refine j_get (ci := 9) (k := 0) (t := 0) rfl in_X9 (Nat.le_of_ble_eq_true rfl) rfl rfl fl_X11_124 dX11_feed_4 (fun (v2 : Int) (hv2 : R32 (v2)) => ?_)
  refine j_bipush dX11_feed_7 (by decide) ?_
  refine j_iadd dX11_feed_9 ?_
  refine j_sipush dX11_feed_10 (by decide) ?_
  refine j_icmp_le (tgt := 18) (w32_R _) (j_r32 300 rfl) dX11_feed_13 rfl (fun _ => ?_) (fun _ => ?_)
  · refine j_aload_n 0 dX11_feed_18 rfl rfl ?_
    refine j_getr (ci := 11) (k := 6) rfl in_X11 (Nat.le_of_ble_eq_true rfl) rfl rfl fl_X11_42 dX11_feed_19 (fun (v3 : Int) (hv3 : 0 ≤ v3) => ?_)
    refine j_iload_n 1 dX11_feed_22 rfl rfl ?_
    refine j_callV (ci := 9) (As := [(0, a1)]) (st := []) kc_X9_append (c_X9_append v3 a1 S hv3 h1) rfl lm_X11_127 ki_X9_append ke_X9_append rfl (Nat.le_of_ble_eq_true rfl) (Nat.le_trans (m := 2) (Nat.le_of_ble_eq_true rfl) hd0) dX11_feed_23 (fun v4 S5 _ => ?_)
    refine j_aload_n 0 dX11_feed_26 rfl rfl ?_
    refine j_getr (ci := 11) (k := 6) rfl in_X11 (Nat.le_of_ble_eq_true rfl) rfl rfl fl_X11_42 dX11_feed_27 (fun (v6 : Int) (hv6 : 0 ≤ v6) => ?_)
    refine j_iload_n 2 dX11_feed_30 rfl rfl ?_
    refine j_callV (ci := 9) (As := [(0, a2)]) (st := []) kc_X9_append (c_X9_append v6 a2 S5 hv6 h2) rfl lm_X11_127 ki_X9_append ke_X9_append rfl (Nat.le_of_ble_eq_true rfl) (Nat.le_trans (m := 2) (Nat.le_of_ble_eq_true rfl) hd0) dX11_feed_31 (fun v7 S8 _ => ?_)
    refine j_aload_n 0 dX11_feed_34 rfl rfl ?_
    refine j_getr (ci := 11) (k := 6) rfl in_X11 (Nat.le_of_ble_eq_true rfl) rfl rfl fl_X11_42 dX11_feed_35 (fun (v9 : Int) (hv9 : 0 ≤ v9) => ?_)
    refine j_iload_n 3 dX11_feed_38 rfl rfl ?_
    refine j_callV (ci := 9) (As := [(0, a3)]) (st := []) kc_X9_append (c_X9_append v9 a3 S8 hv9 h3) rfl lm_X11_127 ki_X9_append ke_X9_append rfl (Nat.le_of_ble_eq_true rfl) (Nat.le_trans (m := 2) (Nat.le_of_ble_eq_true rfl) hd0) dX11_feed_39 (fun v10 S11 _ => ?_)
    refine j_aload_n 0 dX11_feed_42 rfl rfl ?_
    refine j_getr (ci := 11) (k := 6) rfl in_X11 (Nat.le_of_ble_eq_true rfl) rfl rfl fl_X11_42 dX11_feed_43 (fun (v12 : Int) (hv12 : 0 ≤ v12) => ?_)
    refine j_iload 4 dX11_feed_46 rfl ?_
    refine j_callV (ci := 9) (As := [(0, a4)]) (st := []) kc_X9_append (c_X9_append v12 a4 S11 hv12 h4) rfl lm_X11_127 ki_X9_append ke_X9_append rfl (Nat.le_of_ble_eq_true rfl) (Nat.le_trans (m := 2) (Nat.le_of_ble_eq_true rfl) hd0) dX11_feed_48 (fun v13 S14 _ => ?_)
    refine j_aload_n 0 dX11_feed_51 rfl rfl ?_
    refine j_getr (ci := 11) (k := 6) rfl in_X11 (Nat.le_of_ble_eq_true rfl) rfl rfl fl_X11_42 dX11_feed_52 (fun (v15 : Int) (hv15 : 0 ≤ v15) => ?_)
    refine j_iload 5 dX11_feed_55 rfl ?_
    refine j_callV (ci := 9) (As := [(0, a5)]) (st := []) kc_X9_append (c_X9_append v15 a5 S14 hv15 h5) rfl lm_X11_127 ki_X9_append ke_X9_append rfl (Nat.le_of_ble_eq_true rfl) (Nat.le_trans (m := 2) (Nat.le_of_ble_eq_true rfl) hd0) dX11_feed_57 (fun v16 S17 _ => ?_)
    refine j_aload_n 0 dX11_feed_60 rfl rfl ?_
    refine j_getr (ci := 11) (k := 6) rfl in_X11 (Nat.le_of_ble_eq_true rfl) rfl rfl fl_X11_42 dX11_feed_61 (fun (v18 : Int) (hv18 : 0 ≤ v18) => ?_)
    refine j_get (ci := 9) (k := 0) (t := 0) rfl in_X9 (Nat.le_of_ble_eq_true rfl) rfl rfl fl_X11_124 dX11_feed_64 (fun (v19 : Int) (hv19 : R32 (v19)) => ?_)
    exact j_ireturn hv19 dX11_feed_67
  · refine j_iconst dX11_feed_16 ?_
    exact j_ireturn (j_r32 (-1) rfl) dX11_feed_17
theorem c_X11_feed {G : jG} (a0 : Int) (a1 : Int) (a2 : Int) (a3 : Int) (a4 : Int) (a5 : Int) (S : jSt) (h0 : 0 ≤ (a0)) (h1 : R32 (a1)) (h2 : R32 (a2)) (h3 : R32 (a3)) (h4 : R32 (a4)) (h5 : R32 (a5)) : CT G yX11_feed cX11_feed 6 (some .int) 2 ([(2, a0), (0, a1), (0, a2), (0, a3), (0, a4), (0, a5)].map jval) S (f_X11_feed a0 a1 a2 a3 a4 a5 S) := ct_of [(2, a0), (0, a1), (0, a2), (0, a3), (0, a4), (0, a5)] (by decide) rfl (Nat.le_of_ble_eq_true rfl) (e_X11_feed (Nat.le_refl _) a0 a1 a2 a3 a4 a5 S h0 h1 h2 h3 h4 h5)
-- X1_keepsAt
def f_X1_keepsAt_b24 (x0 : Int) (S : jSt) : Option (Int × jSt) :=
  some (x0, S)
theorem p_f_X1_keepsAt_b24 {G : jG} {d : Nat} {S0 : jSt} (hd0 : 1 ≤ d) : ∀ (x0 : Int) (S : jSt), ((x0) = 0 ∨ (x0) = 1) → J G yX1_keepsAt cX1_keepsAt 3 (some .boolean) d S0 24 [] [(0, x0)] S (f_X1_keepsAt_b24  x0 S) := by
  intro x0 S h0
  unfold f_X1_keepsAt_b24
  exact j_zreturn h0 dX1_keepsAt_24
def f_X1_keepsAt_b23 (S : jSt) : Option (Int × jSt) :=
  f_X1_keepsAt_b24 0 S
theorem p_f_X1_keepsAt_b23 {G : jG} {d : Nat} {S0 : jSt} (hd0 : 1 ≤ d) : ∀ (S : jSt), J G yX1_keepsAt cX1_keepsAt 3 (some .boolean) d S0 23 [] [] S (f_X1_keepsAt_b23   S) := by
  intro S
  unfold f_X1_keepsAt_b23
  refine j_iconst dX1_keepsAt_23 ?_
  exact p_f_X1_keepsAt_b24 hd0 0 S jz0
def f_X1_keepsAt (a0 : Int) (a1 : Int) (a2 : Int) (S : jSt) : Option (Int × jSt) :=
  fgetr S a0 1 0 (fun v1 => fald S v1 a1 1 (fun v2 => if v2 = 0 then fgetr S a0 1 1 (fun v3 => fald S v3 a1 1 (fun v4 => if v4 = a2 then f_X1_keepsAt_b24 1 S else f_X1_keepsAt_b23 S)) else f_X1_keepsAt_b23 S))
theorem e_X1_keepsAt {G : jG} {d : Nat} {S0 : jSt} (hd0 : 1 ≤ d) (a0 : Int) (a1 : Int) (a2 : Int) (S : jSt) (h0 : 0 ≤ (a0)) (h1 : R32 (a1)) (h2 : R32 (a2)) : J G yX1_keepsAt cX1_keepsAt 3 (some .boolean) d S0 0 [(0, 2, a0), (1, 0, a1), (2, 0, a2)] [] S (f_X1_keepsAt a0 a1 a2 S) := by
  unfold f_X1_keepsAt
  refine j_aload_n 0 dX1_keepsAt_0 rfl rfl ?_
  refine j_getr (ci := 1) (k := 0) rfl in_X1 (Nat.le_of_ble_eq_true rfl) rfl rfl fl_X1_9 dX1_keepsAt_1 (fun (v1 : Int) (hv1 : 0 ≤ v1) => ?_)
  refine j_iload_n 1 dX1_keepsAt_4 rfl rfl ?_
  refine j_iaload h1 dX1_keepsAt_5 (fun (v2 : Int) (hv2 : R32 (v2)) => ?_)
  refine j_if_ne (tgt := 23) hv2 dX1_keepsAt_6 rfl (fun _ => ?_) (fun _ => ?_)
  · refine j_sub [] rfl ?_
    exact p_f_X1_keepsAt_b23 hd0 S
  · refine j_aload_n 0 dX1_keepsAt_9 rfl rfl ?_
    refine j_getr (ci := 1) (k := 1) rfl in_X1 (Nat.le_of_ble_eq_true rfl) rfl rfl fl_X1_15 dX1_keepsAt_10 (fun (v3 : Int) (hv3 : 0 ≤ v3) => ?_)
    refine j_iload_n 1 dX1_keepsAt_13 rfl rfl ?_
    refine j_iaload h1 dX1_keepsAt_14 (fun (v4 : Int) (hv4 : R32 (v4)) => ?_)
    refine j_iload_n 2 dX1_keepsAt_15 rfl rfl ?_
    refine j_icmp_ne (tgt := 23) hv4 h2 dX1_keepsAt_16 rfl (fun _ => ?_) (fun _ => ?_)
    · refine j_sub [] rfl ?_
      exact p_f_X1_keepsAt_b23 hd0 S
    · refine j_iconst dX1_keepsAt_19 ?_
      refine j_goto (tgt := 24) dX1_keepsAt_20 rfl ?_
      refine j_sub [] rfl ?_
      exact p_f_X1_keepsAt_b24 hd0 1 S jz1
theorem c_X1_keepsAt {G : jG} (a0 : Int) (a1 : Int) (a2 : Int) (S : jSt) (h0 : 0 ≤ (a0)) (h1 : R32 (a1)) (h2 : R32 (a2)) : CT G yX1_keepsAt cX1_keepsAt 3 (some .boolean) 1 ([(2, a0), (0, a1), (0, a2)].map jval) S (f_X1_keepsAt a0 a1 a2 S) := ct_of [(2, a0), (0, a1), (0, a2)] (by decide) rfl (Nat.le_of_ble_eq_true rfl) (e_X1_keepsAt (Nat.le_refl _) a0 a1 a2 S h0 h1 h2)
-- X1_writeDown
def f_X1_writeDown_b35 (x0 : Int) (x1 : Int) (x2 : Int) (x3 : Int) (S : jSt) : Option (Int × jSt) :=
  fget S x0 1 5 (fun v2 => flet (w32 (v2 * 4)) (fun v3 => fgetr S x0 1 4 (fun v4 => fget S x0 1 7 (fun v5 => fast S v4 v3 1 v5 (fun S6 => fgetr S6 x0 1 4 (fun v7 => fast S6 v7 (w32 (v3 + 1)) 1 x1 (fun S8 => fgetr S8 x0 1 4 (fun v9 => fast S8 v9 (w32 (v3 + 2)) 1 x2 (fun S10 => fgetr S10 x0 1 4 (fun v11 => fast S10 v11 (w32 (v3 + 3)) 1 x3 (fun S12 => fget S12 x0 1 5 (fun v13 => fput S12 x0 1 5 (w32 (v13 + 1)) (fun S14 => some (0, S14))))))))))))))
theorem p_f_X1_writeDown_b35 {G : jG} {d : Nat} {S0 : jSt} (hd0 : 1 ≤ d) : ∀ (x0 : Int) (x1 : Int) (x2 : Int) (x3 : Int) (S : jSt), (0 ≤ (x0)) → (R32 (x1)) → (R32 (x2)) → (R32 (x3)) → J G yX1_writeDown cX1_writeDown 5 none d S0 35 [(0, 2, x0), (1, 0, x1), (2, 0, x2), (3, 0, x3)] [] S (f_X1_writeDown_b35  x0 x1 x2 x3 S) := by
  intro x0 x1 x2 x3 S h0 h1 h2 h3
  unfold f_X1_writeDown_b35
  refine j_aload_n 0 dX1_writeDown_35 rfl rfl ?_
  refine j_get (ci := 1) (k := 5) (t := 0) rfl in_X1 (Nat.le_of_ble_eq_true rfl) rfl rfl fl_X1_37 dX1_writeDown_36 (fun (v2 : Int) (hv2 : R32 (v2)) => ?_)
  refine j_iconst dX1_writeDown_39 ?_
  refine j_imul dX1_writeDown_40 ?_
  refine j_leti (w32_R _) (fun v3 hv3 => ?_)
  refine j_istore (lv' := [(4, 0, v3), (0, 2, x0), (1, 0, x1), (2, 0, x2), (3, 0, x3)]) dX1_writeDown_41 (Nat.le_of_ble_eq_true rfl) rfl ?_
  refine j_aload_n 1 dX1_writeDown_43 rfl rfl ?_
  refine j_getr (ci := 1) (k := 4) rfl in_X1 (Nat.le_of_ble_eq_true rfl) rfl rfl fl_X1_24 dX1_writeDown_44 (fun (v4 : Int) (hv4 : 0 ≤ v4) => ?_)
  refine j_iload 0 dX1_writeDown_47 rfl ?_
  refine j_aload_n 1 dX1_writeDown_49 rfl rfl ?_
  refine j_get (ci := 1) (k := 7) (t := 0) rfl in_X1 (Nat.le_of_ble_eq_true rfl) rfl rfl fl_X1_43 dX1_writeDown_50 (fun (v5 : Int) (hv5 : R32 (v5)) => ?_)
  refine j_iastore hv3 hv5 dX1_writeDown_53 (fun S6 => ?_)
  refine j_aload_n 1 dX1_writeDown_54 rfl rfl ?_
  refine j_getr (ci := 1) (k := 4) rfl in_X1 (Nat.le_of_ble_eq_true rfl) rfl rfl fl_X1_24 dX1_writeDown_55 (fun (v7 : Int) (hv7 : 0 ≤ v7) => ?_)
  refine j_iload 0 dX1_writeDown_58 rfl ?_
  refine j_iconst dX1_writeDown_60 ?_
  refine j_iadd dX1_writeDown_61 ?_
  refine j_iload_n 2 dX1_writeDown_62 rfl rfl ?_
  refine j_iastore (w32_R _) h1 dX1_writeDown_63 (fun S8 => ?_)
  refine j_aload_n 1 dX1_writeDown_64 rfl rfl ?_
  refine j_getr (ci := 1) (k := 4) rfl in_X1 (Nat.le_of_ble_eq_true rfl) rfl rfl fl_X1_24 dX1_writeDown_65 (fun (v9 : Int) (hv9 : 0 ≤ v9) => ?_)
  refine j_iload 0 dX1_writeDown_68 rfl ?_
  refine j_iconst dX1_writeDown_70 ?_
  refine j_iadd dX1_writeDown_71 ?_
  refine j_iload_n 3 dX1_writeDown_72 rfl rfl ?_
  refine j_iastore (w32_R _) h2 dX1_writeDown_73 (fun S10 => ?_)
  refine j_aload_n 1 dX1_writeDown_74 rfl rfl ?_
  refine j_getr (ci := 1) (k := 4) rfl in_X1 (Nat.le_of_ble_eq_true rfl) rfl rfl fl_X1_24 dX1_writeDown_75 (fun (v11 : Int) (hv11 : 0 ≤ v11) => ?_)
  refine j_iload 0 dX1_writeDown_78 rfl ?_
  refine j_iconst dX1_writeDown_80 ?_
  refine j_iadd dX1_writeDown_81 ?_
  refine j_iload_n 4 dX1_writeDown_82 rfl rfl ?_
  refine j_iastore (w32_R _) h3 dX1_writeDown_83 (fun S12 => ?_)
  refine j_aload_n 1 dX1_writeDown_84 rfl rfl ?_
  refine j_dup dX1_writeDown_85 (fun h => nomatch h) ?_
  refine j_get (ci := 1) (k := 5) (t := 0) rfl in_X1 (Nat.le_of_ble_eq_true rfl) rfl rfl fl_X1_37 dX1_writeDown_86 (fun (v13 : Int) (hv13 : R32 (v13)) => ?_)
  refine j_iconst dX1_writeDown_89 ?_
  refine j_iadd dX1_writeDown_90 ?_
  refine j_puti (ci := 1) (k := 5) (ty0 := tyX1) rfl in_X1 (Nat.le_of_ble_eq_true rfl) rfl tyX1_ok nmX1 rfl rfl (by decide +kernel) (w32_R _) fl_X1_37 dX1_writeDown_91 (fun S14 => ?_)
  exact j_return dX1_writeDown_94
def f_X1_writeDown (a0 : Int) (a1 : Int) (a2 : Int) (a3 : Int) (S : jSt) : Option (Int × jSt) :=
  fget S a0 1 5 (fun v1 => if v1 < 30 then f_X1_writeDown_b35 a0 a1 a2 a3 S else fgetr S a0 1 4 (fun v15 => fgetr S a0 1 4 (fun v16 => fgetr S a0 1 4 (fun v17 => flen S v17 1 (fun v18 => fcopy S v15 4 v16 0 (w32 (v18 - 4)) (fun S19 => fput S19 a0 1 5 29 (fun S20 => f_X1_writeDown_b35 a0 a1 a2 a3 S20)))))))
theorem e_X1_writeDown {G : jG} {d : Nat} {S0 : jSt} (hd0 : 1 ≤ d) (a0 : Int) (a1 : Int) (a2 : Int) (a3 : Int) (S : jSt) (h0 : 0 ≤ (a0)) (h1 : R32 (a1)) (h2 : R32 (a2)) (h3 : R32 (a3)) : J G yX1_writeDown cX1_writeDown 5 none d S0 0 [(0, 2, a0), (1, 0, a1), (2, 0, a2), (3, 0, a3)] [] S (f_X1_writeDown a0 a1 a2 a3 S) := by
  unfold f_X1_writeDown
  refine j_aload_n 0 dX1_writeDown_0 rfl rfl ?_
  refine j_get (ci := 1) (k := 5) (t := 0) rfl in_X1 (Nat.le_of_ble_eq_true rfl) rfl rfl fl_X1_37 dX1_writeDown_1 (fun (v1 : Int) (hv1 : R32 (v1)) => ?_)
  refine j_bipush dX1_writeDown_4 (by decide) ?_
  refine j_icmp_lt (tgt := 35) hv1 (j_r32 30 rfl) dX1_writeDown_6 rfl (fun _ => ?_) (fun _ => ?_)
  · exact p_f_X1_writeDown_b35 hd0 a0 a1 a2 a3 S h0 h1 h2 h3
  · refine j_aload_n 0 dX1_writeDown_9 rfl rfl ?_
    refine j_getr (ci := 1) (k := 4) rfl in_X1 (Nat.le_of_ble_eq_true rfl) rfl rfl fl_X1_24 dX1_writeDown_10 (fun (v15 : Int) (hv15 : 0 ≤ v15) => ?_)
    refine j_iconst dX1_writeDown_13 ?_
    refine j_aload_n 0 dX1_writeDown_14 rfl rfl ?_
    refine j_getr (ci := 1) (k := 4) rfl in_X1 (Nat.le_of_ble_eq_true rfl) rfl rfl fl_X1_24 dX1_writeDown_15 (fun (v16 : Int) (hv16 : 0 ≤ v16) => ?_)
    refine j_iconst dX1_writeDown_18 ?_
    refine j_aload_n 0 dX1_writeDown_19 rfl rfl ?_
    refine j_getr (ci := 1) (k := 4) rfl in_X1 (Nat.le_of_ble_eq_true rfl) rfl rfl fl_X1_24 dX1_writeDown_20 (fun (v17 : Int) (hv17 : 0 ≤ v17) => ?_)
    refine j_alen dX1_writeDown_23 (fun (v18 : Int) (hv18 : R32 v18) => ?_)
    refine j_iconst dX1_writeDown_24 ?_
    refine j_isub dX1_writeDown_25 ?_
    refine j_copy (j_r32 4 rfl) (jZ_R jz0) (w32_R _) la_X1_31 ay_n ay_s ay_i (Nat.le_of_ble_eq_true rfl) (Nat.le_trans (Nat.le_of_ble_eq_true rfl) hd0) dX1_writeDown_26 (fun S19 => ?_)
    refine j_aload_n 0 dX1_writeDown_29 rfl rfl ?_
    refine j_bipush dX1_writeDown_30 (by decide) ?_
    refine j_puti (ci := 1) (k := 5) (ty0 := tyX1) rfl in_X1 (Nat.le_of_ble_eq_true rfl) rfl tyX1_ok nmX1 rfl rfl (by decide +kernel) (j_r32 29 rfl) fl_X1_37 dX1_writeDown_32 (fun S20 => ?_)
    exact p_f_X1_writeDown_b35 hd0 a0 a1 a2 a3 S20 h0 h1 h2 h3
theorem c_X1_writeDown {G : jG} (a0 : Int) (a1 : Int) (a2 : Int) (a3 : Int) (S : jSt) (h0 : 0 ≤ (a0)) (h1 : R32 (a1)) (h2 : R32 (a2)) (h3 : R32 (a3)) : CT G yX1_writeDown cX1_writeDown 5 none 1 ([(2, a0), (0, a1), (0, a2), (0, a3)].map jval) S (f_X1_writeDown a0 a1 a2 a3 S) := ct_of [(2, a0), (0, a1), (0, a2), (0, a3)] (by decide) rfl (Nat.le_of_ble_eq_true rfl) (e_X1_writeDown (Nat.le_refl _) a0 a1 a2 a3 S h0 h1 h2 h3)
-- X5_handOver
def f_X5_handOver (a0 : Int) (a1 : Int) (a2 : Int) (S : jSt) : Option (Int × jSt) :=
  fget S a0 5 0 (fun v1 => if v1 = (-1) then some (0, S) else fgetr S a1 1 2 (fun v2 => fget S a0 5 0 (fun v3 => fald S v2 v3 1 (fun v4 => fget S a0 5 1 (fun v5 => fast S v2 v3 1 (w32 (v4 - v5)) (fun S6 => fget S6 a1 1 6 (fun v7 => fget S6 a0 5 1 (fun v8 => fput S6 a1 1 6 (imin 99999 (w32 (v7 + v8))) (fun S9 => fgetr S9 a1 1 0 (fun v10 => fget S9 a0 5 0 (fun v11 => fast S9 v10 a2 1 (w32 (3 + v11)) (fun S12 => fget S12 a0 5 0 (fun v13 => fget S12 a0 5 1 (fun v14 => fcallv S12 a1 1 (f_X1_writeDown a1 a2 v13 v14 S12) (fun v15 S16 => some (1, S16))))))))))))))))
theorem e_X5_handOver {G : jG} {d : Nat} {S0 : jSt} (hd0 : 2 ≤ d) (a0 : Int) (a1 : Int) (a2 : Int) (S : jSt) (h0 : 0 ≤ (a0)) (h1 : 0 ≤ (a1)) (h2 : R32 (a2)) : J G yX5_handOver cX5_handOver 3 (some .boolean) d S0 0 [(0, 2, a0), (1, 2, a1), (2, 0, a2)] [] S (f_X5_handOver a0 a1 a2 S) := by
  unfold f_X5_handOver
  refine j_aload_n 0 dX5_handOver_0 rfl rfl ?_
  refine j_get (ci := 5) (k := 0) (t := 0) rfl in_X5 (Nat.le_of_ble_eq_true rfl) rfl rfl fl_X5_9 dX5_handOver_1 (fun (v1 : Int) (hv1 : R32 (v1)) => ?_)
  refine j_iconst dX5_handOver_4 ?_
  refine j_icmp_ne (tgt := 10) hv1 (j_r32 (-1) rfl) dX5_handOver_5 rfl (fun _ => ?_) (fun _ => ?_)
  · refine j_aload_n 1 dX5_handOver_10 rfl rfl ?_
    refine j_getr (ci := 1) (k := 2) rfl in_X1 (Nat.le_of_ble_eq_true rfl) rfl rfl fl_X5_71 dX5_handOver_11 (fun (v2 : Int) (hv2 : 0 ≤ v2) => ?_)
    refine j_aload_n 0 dX5_handOver_14 rfl rfl ?_
    refine j_get (ci := 5) (k := 0) (t := 0) rfl in_X5 (Nat.le_of_ble_eq_true rfl) rfl rfl fl_X5_9 dX5_handOver_15 (fun (v3 : Int) (hv3 : R32 (v3)) => ?_)
    refine j_dup2 dX5_handOver_18 (fun h => nomatch h) (fun h => nomatch h) ?_
    refine j_iaload hv3 dX5_handOver_19 (fun (v4 : Int) (hv4 : R32 (v4)) => ?_)
    refine j_aload_n 0 dX5_handOver_20 rfl rfl ?_
    refine j_get (ci := 5) (k := 1) (t := 0) rfl in_X5 (Nat.le_of_ble_eq_true rfl) rfl rfl fl_X5_15 dX5_handOver_21 (fun (v5 : Int) (hv5 : R32 (v5)) => ?_)
    refine j_isub dX5_handOver_24 ?_
    refine j_iastore hv3 (w32_R _) dX5_handOver_25 (fun S6 => ?_)
    refine j_aload_n 1 dX5_handOver_26 rfl rfl ?_
    refine j_ldc cn_X5_89 dX5_handOver_27 ?_
    refine j_aload_n 1 dX5_handOver_29 rfl rfl ?_
    refine j_get (ci := 1) (k := 6) (t := 0) rfl in_X1 (Nat.le_of_ble_eq_true rfl) rfl rfl fl_X5_90 dX5_handOver_30 (fun (v7 : Int) (hv7 : R32 (v7)) => ?_)
    refine j_aload_n 0 dX5_handOver_33 rfl rfl ?_
    refine j_get (ci := 5) (k := 1) (t := 0) rfl in_X5 (Nat.le_of_ble_eq_true rfl) rfl rfl fl_X5_15 dX5_handOver_34 (fun (v8 : Int) (hv8 : R32 (v8)) => ?_)
    refine j_iadd dX5_handOver_37 ?_
    refine j_mmin (j_r32 99999 rfl) (w32_R _) lx_X5_54 mx_s_mmin mx_i mx_c_mmin (Nat.le_of_ble_eq_true rfl) (Nat.le_trans (Nat.le_of_ble_eq_true rfl) hd0) dX5_handOver_38 ?_
    refine j_puti (ci := 1) (k := 6) (ty0 := tyX1) rfl in_X1 (Nat.le_of_ble_eq_true rfl) rfl tyX1_ok nmX1 rfl rfl (by decide +kernel) (imin_R (j_r32 99999 rfl) (w32_R _)) fl_X5_90 dX5_handOver_41 (fun S9 => ?_)
    refine j_aload_n 1 dX5_handOver_44 rfl rfl ?_
    refine j_getr (ci := 1) (k := 0) rfl in_X1 (Nat.le_of_ble_eq_true rfl) rfl rfl fl_X5_93 dX5_handOver_45 (fun (v10 : Int) (hv10 : 0 ≤ v10) => ?_)
    refine j_iload_n 2 dX5_handOver_48 rfl rfl ?_
    refine j_iconst dX5_handOver_49 ?_
    refine j_aload_n 0 dX5_handOver_50 rfl rfl ?_
    refine j_get (ci := 5) (k := 0) (t := 0) rfl in_X5 (Nat.le_of_ble_eq_true rfl) rfl rfl fl_X5_9 dX5_handOver_51 (fun (v11 : Int) (hv11 : R32 (v11)) => ?_)
    refine j_iadd dX5_handOver_54 ?_
    refine j_iastore h2 (w32_R _) dX5_handOver_55 (fun S12 => ?_)
    refine j_aload_n 1 dX5_handOver_56 rfl rfl ?_
    refine j_iload_n 2 dX5_handOver_57 rfl rfl ?_
    refine j_aload_n 0 dX5_handOver_58 rfl rfl ?_
    refine j_get (ci := 5) (k := 0) (t := 0) rfl in_X5 (Nat.le_of_ble_eq_true rfl) rfl rfl fl_X5_9 dX5_handOver_59 (fun (v13 : Int) (hv13 : R32 (v13)) => ?_)
    refine j_aload_n 0 dX5_handOver_62 rfl rfl ?_
    refine j_get (ci := 5) (k := 1) (t := 0) rfl in_X5 (Nat.le_of_ble_eq_true rfl) rfl rfl fl_X5_15 dX5_handOver_63 (fun (v14 : Int) (hv14 : R32 (v14)) => ?_)
    refine j_callV (ci := 1) (As := [(0, a2), (0, v13), (0, v14)]) (st := []) kc_X1_writeDown (c_X1_writeDown a1 a2 v13 v14 S12 h1 h2 hv13 hv14) rfl lm_X5_96 ki_X1_writeDown ke_X1_writeDown rfl (Nat.le_of_ble_eq_true rfl) (Nat.le_trans (m := 2) (Nat.le_of_ble_eq_true rfl) hd0) dX5_handOver_66 (fun v15 S16 _ => ?_)
    refine j_iconst dX5_handOver_69 ?_
    exact j_zreturn jz1 dX5_handOver_70
  · refine j_iconst dX5_handOver_8 ?_
    exact j_zreturn jz0 dX5_handOver_9
theorem c_X5_handOver {G : jG} (a0 : Int) (a1 : Int) (a2 : Int) (S : jSt) (h0 : 0 ≤ (a0)) (h1 : 0 ≤ (a1)) (h2 : R32 (a2)) : CT G yX5_handOver cX5_handOver 3 (some .boolean) 2 ([(2, a0), (2, a1), (0, a2)].map jval) S (f_X5_handOver a0 a1 a2 S) := ct_of [(2, a0), (2, a1), (0, a2)] (by decide) rfl (Nat.le_of_ble_eq_true rfl) (e_X5_handOver (Nat.le_refl _) a0 a1 a2 S h0 h1 h2)
-- X1_turnX
def f_X1_turnX (a0 : Int) (S : jSt) : Option (Int × jSt) :=
  fget S a0 1 8 (fun v1 => fget S a0 1 8 (fun v2 => if 30593 = 0 then none else fput S a0 1 8 (irem32 (w32 ((w32 (v2 * 449)) + 337)) 30593) (fun S3 => some (v1, S3))))
theorem e_X1_turnX {G : jG} {d : Nat} {S0 : jSt} (hd0 : 1 ≤ d) (a0 : Int) (S : jSt) (h0 : 0 ≤ (a0)) : J G yX1_turnX cX1_turnX 2 (some .int) d S0 0 [(0, 2, a0)] [] S (f_X1_turnX a0 S) := by
  unfold f_X1_turnX
  refine j_aload_n 0 dX1_turnX_0 rfl rfl ?_
  refine j_get (ci := 1) (k := 8) (t := 0) rfl in_X1 (Nat.le_of_ble_eq_true rfl) rfl rfl fl_X1_27 dX1_turnX_1 (fun (v1 : Int) (hv1 : R32 (v1)) => ?_)
  refine j_istore_n (lv' := [(1, 0, v1), (0, 2, a0)]) dX1_turnX_4 rfl (Nat.le_of_ble_eq_true rfl) rfl ?_
  refine j_aload_n 1 dX1_turnX_5 rfl rfl ?_
  refine j_aload_n 1 dX1_turnX_6 rfl rfl ?_
  refine j_get (ci := 1) (k := 8) (t := 0) rfl in_X1 (Nat.le_of_ble_eq_true rfl) rfl rfl fl_X1_27 dX1_turnX_7 (fun (v2 : Int) (hv2 : R32 (v2)) => ?_)
  refine j_sipush dX1_turnX_10 (by decide) ?_
  refine j_imul dX1_turnX_13 ?_
  refine j_sipush dX1_turnX_14 (by decide) ?_
  refine j_iadd dX1_turnX_17 ?_
  refine j_sipush dX1_turnX_18 (by decide) ?_
  refine j_irem (j_r32 30593 rfl) dX1_turnX_21 ?_
  refine j_puti (ci := 1) (k := 8) (ty0 := tyX1) rfl in_X1 (Nat.le_of_ble_eq_true rfl) rfl tyX1_ok nmX1 rfl rfl (by decide +kernel) (irem32_R _ _) fl_X1_27 dX1_turnX_22 (fun S3 => ?_)
  refine j_iload_n 0 dX1_turnX_25 rfl rfl ?_
  exact j_ireturn hv1 dX1_turnX_26
theorem c_X1_turnX {G : jG} (a0 : Int) (S : jSt) (h0 : 0 ≤ (a0)) : CT G yX1_turnX cX1_turnX 2 (some .int) 1 ([(2, a0)].map jval) S (f_X1_turnX a0 S) := ct_of [(2, a0)] (by decide) rfl (Nat.le_of_ble_eq_true rfl) (e_X1_turnX (Nat.le_refl _) a0 S h0)
-- X5_warmsBy
def f_X5_warmsBy_b12 (S : jSt) : Option (Int × jSt) :=
  some (3, S)
theorem p_f_X5_warmsBy_b12 {G : jG} {d : Nat} {S0 : jSt} (hd0 : 3 ≤ d) : ∀ (S : jSt), J G yX5_warmsBy cX5_warmsBy 4 (some .int) d S0 12 [] [] S (f_X5_warmsBy_b12   S) := by
  intro S
  unfold f_X5_warmsBy_b12
  refine j_iconst dX5_warmsBy_12 ?_
  exact j_ireturn (j_r32 3 rfl) dX5_warmsBy_13
def f_X5_warmsBy (a0 : Int) (a1 : Int) (a2 : Int) (a3 : Int) (S : jSt) : Option (Int × jSt) :=
  if a1 < 0 then f_X5_warmsBy_b12 S else if 0 ≤ a1 then fcallv S a1 6 (f_X6_rules a1 3 S) (fun v1 S2 => if v1 = 0 then f_X5_warmsBy_b12 S2 else fgetr S2 a0 5 3 (fun v3 => fcallv S2 v3 2 (f_X2_value v3 a1 3 a2 a3 (-1) S2) (fun v4 S5 => some (imax 0 (imin 10 v4), S5)))) else none
theorem e_X5_warmsBy {G : jG} {d : Nat} {S0 : jSt} (hd0 : 3 ≤ d) (a0 : Int) (a1 : Int) (a2 : Int) (a3 : Int) (S : jSt) (h0 : 0 ≤ (a0)) (h2 : 0 ≤ (a2)) (h3 : R32 (a3)) : J G yX5_warmsBy cX5_warmsBy 4 (some .int) d S0 0 [(0, 2, a0), (1, 3, a1), (2, 2, a2), (3, 0, a3)] [] S (f_X5_warmsBy a0 a1 a2 a3 S) := by
  unfold f_X5_warmsBy
  refine j_aload_nq 1 dX5_warmsBy_0 rfl rfl ?_
  refine j_ifnull (tgt := 12) dX5_warmsBy_1 rfl (fun _ => ?_) (fun _ => ?_)
  · refine j_sub [] rfl ?_
    exact p_f_X5_warmsBy_b12 hd0 S
  · refine j_aload_nq 1 dX5_warmsBy_4 rfl rfl ?_
    refine j_iconst dX5_warmsBy_5 ?_
    refine j_cast (z := a1) (st' := [(0, 3), (2, a1)]) (fun h => by simp only [List.map_cons, jpush, jtag, jval3r h]) (fun hq6 => ?_)
    refine j_callV (ci := 6) (As := [(0, 3)]) (st := []) kc_X6_rules (c_X6_rules a1 3 S hq6 (j_r32 3 rfl)) rfl lm_X5_40 ki_X6_rules ke_X6_rules rfl (Nat.le_of_ble_eq_true rfl) (Nat.le_trans (m := 3) (Nat.le_of_ble_eq_true rfl) hd0) dX5_warmsBy_6 (fun (v1 : Int) (S2 : jSt) (hv1 : (v1) = 0 ∨ (v1) = 1) => ?_)
    refine j_if_ne (tgt := 14) (jZ_R hv1) dX5_warmsBy_9 rfl (fun _ => ?_) (fun _ => ?_)
    · refine j_iconst dX5_warmsBy_14 ?_
      refine j_bipush dX5_warmsBy_15 (by decide) ?_
      refine j_aload_n 0 dX5_warmsBy_17 rfl rfl ?_
      refine j_getr (ci := 5) (k := 3) rfl in_X5 (Nat.le_of_ble_eq_true rfl) rfl rfl fl_X5_27 dX5_warmsBy_18 (fun (v3 : Int) (hv3 : 0 ≤ v3) => ?_)
      refine j_aload_nq 1 dX5_warmsBy_21 rfl rfl ?_
      refine j_iconst dX5_warmsBy_22 ?_
      refine j_aload_n 2 dX5_warmsBy_23 rfl rfl ?_
      refine j_iload_n 3 dX5_warmsBy_24 rfl rfl ?_
      refine j_iconst dX5_warmsBy_25 ?_
      refine j_callV (ci := 2) (As := [(3, a1), (0, 3), (2, a2), (0, a3), (0, (-1))]) (st := [(0, 10), (0, 0)]) kc_X2_value (c_X2_value v3 a1 3 a2 a3 (-1) S2 hv3 (j_r32 3 rfl) h2 h3 (j_r32 (-1) rfl)) rfl lm_X5_50 ki_X2_value ke_X2_value rfl (Nat.le_of_ble_eq_true rfl) (Nat.le_trans (m := 3) (Nat.le_of_ble_eq_true rfl) hd0) dX5_warmsBy_26 (fun (v4 : Int) (S5 : jSt) (hv4 : R32 (v4)) => ?_)
      refine j_mmin (j_r32 10 rfl) hv4 lx_X5_54 mx_s_mmin mx_i mx_c_mmin (Nat.le_of_ble_eq_true rfl) (Nat.le_trans (Nat.le_of_ble_eq_true rfl) hd0) dX5_warmsBy_29 ?_
      refine j_mmax (jZ_R jz0) (imin_R (j_r32 10 rfl) hv4) lx_X5_60 mx_s_mmax mx_i mx_c_mmax (Nat.le_of_ble_eq_true rfl) (Nat.le_trans (Nat.le_of_ble_eq_true rfl) hd0) dX5_warmsBy_32 ?_
      exact j_ireturn (imax_R (jZ_R jz0) (imin_R (j_r32 10 rfl) hv4)) dX5_warmsBy_35
    · refine j_sub [] rfl ?_
      exact p_f_X5_warmsBy_b12 hd0 S2
theorem c_X5_warmsBy {G : jG} (a0 : Int) (a1 : Int) (a2 : Int) (a3 : Int) (S : jSt) (h0 : 0 ≤ (a0)) (h2 : 0 ≤ (a2)) (h3 : R32 (a3)) : CT G yX5_warmsBy cX5_warmsBy 4 (some .int) 3 ([(2, a0), (3, a1), (2, a2), (0, a3)].map jval) S (f_X5_warmsBy a0 a1 a2 a3 S) := ct_of [(2, a0), (3, a1), (2, a2), (0, a3)] (by decide) rfl (Nat.le_of_ble_eq_true rfl) (e_X5_warmsBy (Nat.le_refl _) a0 a1 a2 a3 S h0 h2 h3)
-- X5_warm
def f_X5_warm_b78 (S : jSt) : Option (Int × jSt) :=
  some (0, S)
theorem p_f_X5_warm_b78 {G : jG} {d : Nat} {S0 : jSt} (hd0 : 4 ≤ d) : ∀ (S : jSt), J G yX5_warm cX5_warm 5 none d S0 78 [] [] S (f_X5_warm_b78   S) := by
  intro S
  unfold f_X5_warm_b78
  exact j_return dX5_warm_78
def f_X5_warm (a0 : Int) (a1 : Int) (a2 : Int) (S : jSt) : Option (Int × jSt) :=
  fcallv S a1 1 (f_X1_turnX a1 S) (fun v1 S2 => if 10 = 0 then none else flet (irem32 v1 10) (fun v3 => fgetr S2 a0 5 2 (fun v4 => fget S2 v4 10 1 (fun v5 => if v5 ≤ 0 then f_X5_warm_b78 S2 else fgetr S2 a0 5 2 (fun v6 => fgetr S2 a0 5 2 (fun v7 => fget S2 v7 10 6 (fun v8 => fcallv S2 v6 10 (f_X10_scriptOf v6 v8 S2) (fun v9 S10 => fcallv S10 a0 5 (f_X5_warmsBy a0 v9 a1 a2 S10) (fun v11 S12 => if v11 ≤ v3 then f_X5_warm_b78 S12 else fgetr S12 a0 5 2 (fun v13 => fget S12 v13 10 1 (fun v14 => if v14 = 0 then none else fcall (f_X11_wantAt (irem32 v3 v14) a2 S12) (fun v15 S16 => fgetr S16 a1 1 3 (fun v17 => fgetr S16 a1 1 3 (fun v18 => fald S16 v18 v15 1 (fun v19 => fast S16 v17 v15 1 (imin 99 (w32 (v19 + 5))) (fun S20 => f_X5_warm_b78 S20))))))))))))))))
theorem e_X5_warm {G : jG} {d : Nat} {S0 : jSt} (hd0 : 4 ≤ d) (a0 : Int) (a1 : Int) (a2 : Int) (S : jSt) (h0 : 0 ≤ (a0)) (h1 : 0 ≤ (a1)) (h2 : R32 (a2)) : J G yX5_warm cX5_warm 5 none d S0 0 [(0, 2, a0), (1, 2, a1), (2, 0, a2)] [] S (f_X5_warm a0 a1 a2 S) := by
  unfold f_X5_warm
  refine j_aload_n 1 dX5_warm_0 rfl rfl ?_
  refine j_callV (ci := 1) (As := []) (st := []) kc_X1_turnX (c_X1_turnX a1 S h1) rfl lm_X5_134 ki_X1_turnX ke_X1_turnX rfl (Nat.le_of_ble_eq_true rfl) (Nat.le_trans (m := 4) (Nat.le_of_ble_eq_true rfl) hd0) dX5_warm_1 (fun (v1 : Int) (S2 : jSt) (hv1 : R32 (v1)) => ?_)
  refine j_bipush dX5_warm_4 (by decide) ?_
  refine j_irem (j_r32 10 rfl) dX5_warm_6 ?_
  refine j_leti (irem32_R _ _) (fun v3 hv3 => ?_)
  refine j_istore_n (lv' := [(3, 0, v3), (0, 2, a0), (1, 2, a1), (2, 0, a2)]) dX5_warm_7 rfl (Nat.le_of_ble_eq_true rfl) rfl ?_
  refine j_aload_n 1 dX5_warm_8 rfl rfl ?_
  refine j_getr (ci := 5) (k := 2) rfl in_X5 (Nat.le_of_ble_eq_true rfl) rfl rfl fl_X5_18 dX5_warm_9 (fun (v4 : Int) (hv4 : 0 ≤ v4) => ?_)
  refine j_get (ci := 10) (k := 1) (t := 0) rfl in_X10 (Nat.le_of_ble_eq_true rfl) rfl rfl fl_X5_78 dX5_warm_12 (fun (v5 : Int) (hv5 : R32 (v5)) => ?_)
  refine j_if_le (tgt := 78) hv5 dX5_warm_15 rfl (fun _ => ?_) (fun _ => ?_)
  · refine j_sub [] rfl ?_
    exact p_f_X5_warm_b78 hd0 S2
  · refine j_iload_n 0 dX5_warm_18 rfl rfl ?_
    refine j_aload_n 1 dX5_warm_19 rfl rfl ?_
    refine j_aload_n 1 dX5_warm_20 rfl rfl ?_
    refine j_getr (ci := 5) (k := 2) rfl in_X5 (Nat.le_of_ble_eq_true rfl) rfl rfl fl_X5_18 dX5_warm_21 (fun (v6 : Int) (hv6 : 0 ≤ v6) => ?_)
    refine j_aload_n 1 dX5_warm_24 rfl rfl ?_
    refine j_getr (ci := 5) (k := 2) rfl in_X5 (Nat.le_of_ble_eq_true rfl) rfl rfl fl_X5_18 dX5_warm_25 (fun (v7 : Int) (hv7 : 0 ≤ v7) => ?_)
    refine j_get (ci := 10) (k := 6) (t := 0) rfl in_X10 (Nat.le_of_ble_eq_true rfl) rfl rfl fl_X5_31 dX5_warm_28 (fun (v8 : Int) (hv8 : R32 (v8)) => ?_)
    refine j_callV (ci := 10) (As := [(0, v8)]) (st := [(2, a0), (0, v3)]) kc_X10_scriptOf (c_X10_scriptOf v6 v8 S2 hv6 hv8) rfl lm_X5_36 ki_X10_scriptOf ke_X10_scriptOf rfl (Nat.le_of_ble_eq_true rfl) (Nat.le_trans (m := 4) (Nat.le_of_ble_eq_true rfl) hd0) dX5_warm_31 (fun v9 S10 _ => ?_)
    refine j_aload_n 2 dX5_warm_34 rfl rfl ?_
    refine j_iload_n 3 dX5_warm_35 rfl rfl ?_
    refine j_callV (ci := 5) (As := [(3, v9), (2, a1), (0, a2)]) (st := [(0, v3)]) kc_X5_warmsBy (c_X5_warmsBy a0 v9 a1 a2 S10 h0 h1 h2) rfl lm_X5_137 ki_X5_warmsBy ke_X5_warmsBy rfl (Nat.le_of_ble_eq_true rfl) (Nat.le_trans (m := 4) (Nat.le_of_ble_eq_true rfl) hd0) dX5_warm_36 (fun (v11 : Int) (S12 : jSt) (hv11 : R32 (v11)) => ?_)
    refine j_icmp_ge (tgt := 78) hv3 hv11 dX5_warm_39 rfl (fun _ => ?_) (fun _ => ?_)
    · refine j_sub [] rfl ?_
      exact p_f_X5_warm_b78 hd0 S12
    · refine j_iload_n 0 dX5_warm_42 rfl rfl ?_
      refine j_aload_n 1 dX5_warm_43 rfl rfl ?_
      refine j_getr (ci := 5) (k := 2) rfl in_X5 (Nat.le_of_ble_eq_true rfl) rfl rfl fl_X5_18 dX5_warm_44 (fun (v13 : Int) (hv13 : 0 ≤ v13) => ?_)
      refine j_get (ci := 10) (k := 1) (t := 0) rfl in_X10 (Nat.le_of_ble_eq_true rfl) rfl rfl fl_X5_78 dX5_warm_47 (fun (v14 : Int) (hv14 : R32 (v14)) => ?_)
      refine j_irem hv14 dX5_warm_50 ?_
      refine j_iload_n 3 dX5_warm_51 rfl rfl ?_
      refine j_callSN (As := [(0, irem32 v3 v14), (0, a2)]) (st := []) (host := RX11) kc_X11_wantAt (c_X11_wantAt (irem32 v3 v14) a2 S12 (irem32_R _ _) h2) (by decide +kernel) ks_X11_wantAt rfl (Nat.le_of_ble_eq_true rfl) (Nat.le_trans (m := 4) (Nat.le_of_ble_eq_true rfl) hd0) dX5_warm_52 (fun (v15 : Int) (S16 : jSt) (hv15 : R32 (v15)) => ?_)
      refine j_istore (lv' := [(4, 0, v15), (3, 0, v3), (0, 2, a0), (1, 2, a1), (2, 0, a2)]) dX5_warm_55 (Nat.le_of_ble_eq_true rfl) rfl ?_
      refine j_aload_n 3 dX5_warm_57 rfl rfl ?_
      refine j_getr (ci := 1) (k := 3) rfl in_X1 (Nat.le_of_ble_eq_true rfl) rfl rfl fl_X5_63 dX5_warm_58 (fun (v17 : Int) (hv17 : 0 ≤ v17) => ?_)
      refine j_iload 0 dX5_warm_61 rfl ?_
      refine j_bipush dX5_warm_63 (by decide) ?_
      refine j_aload_n 3 dX5_warm_65 rfl rfl ?_
      refine j_getr (ci := 1) (k := 3) rfl in_X1 (Nat.le_of_ble_eq_true rfl) rfl rfl fl_X5_63 dX5_warm_66 (fun (v18 : Int) (hv18 : 0 ≤ v18) => ?_)
      refine j_iload 0 dX5_warm_69 rfl ?_
      refine j_iaload hv15 dX5_warm_71 (fun (v19 : Int) (hv19 : R32 (v19)) => ?_)
      refine j_iconst dX5_warm_72 ?_
      refine j_iadd dX5_warm_73 ?_
      refine j_mmin (j_r32 99 rfl) (w32_R _) lx_X5_54 mx_s_mmin mx_i mx_c_mmin (Nat.le_of_ble_eq_true rfl) (Nat.le_trans (Nat.le_of_ble_eq_true rfl) hd0) dX5_warm_74 ?_
      refine j_iastore hv15 (imin_R (j_r32 99 rfl) (w32_R _)) dX5_warm_77 (fun S20 => ?_)
      refine j_sub [] rfl ?_
      exact p_f_X5_warm_b78 hd0 S20
theorem c_X5_warm {G : jG} (a0 : Int) (a1 : Int) (a2 : Int) (S : jSt) (h0 : 0 ≤ (a0)) (h1 : 0 ≤ (a1)) (h2 : R32 (a2)) : CT G yX5_warm cX5_warm 5 none 4 ([(2, a0), (2, a1), (0, a2)].map jval) S (f_X5_warm a0 a1 a2 S) := ct_of [(2, a0), (2, a1), (0, a2)] (by decide) rfl (Nat.le_of_ble_eq_true rfl) (e_X5_warm (Nat.le_refl _) a0 a1 a2 S h0 h1 h2)
-- X5_passWeek
def f_X5_passWeek_b72 (r10 : Int → Int → Int → Int → Int → jSt → Option (Int × jSt)) (x0 : Int) (x1 : Int) (x2 : Int) (x3 : Int) (x4 : Int) (S : jSt) : Option (Int × jSt) :=
  flet (w32 (x4 + 1)) (fun v9 => r10 x0 x1 x2 x3 v9 S)
theorem p_f_X5_passWeek_b72 {G : jG} {d : Nat} {S0 : jSt} (hd0 : 5 ≤ d) {r10 : Int → Int → Int → Int → Int → jSt → Option (Int × jSt)} (k10 : ∀ (x0 : Int) (x1 : Int) (x2 : Int) (x3 : Int) (x4 : Int) (S : jSt), (0 ≤ (x0)) → (0 ≤ (x1)) → (R32 (x2)) → (R32 (x3)) → (R32 (x4)) → J G yX5_passWeek cX5_passWeek 5 (some .int) d S0 10 [(0, 2, x0), (1, 2, x1), (2, 0, x2), (3, 0, x3), (4, 0, x4)] [] S (r10 x0 x1 x2 x3 x4 S)) : ∀ (x0 : Int) (x1 : Int) (x2 : Int) (x3 : Int) (x4 : Int) (S : jSt), (0 ≤ (x0)) → (0 ≤ (x1)) → (R32 (x2)) → (R32 (x3)) → (R32 (x4)) → J G yX5_passWeek cX5_passWeek 5 (some .int) d S0 72 [(0, 2, x0), (1, 2, x1), (2, 0, x2), (3, 0, x3), (4, 0, x4)] [] S (f_X5_passWeek_b72 r10 x0 x1 x2 x3 x4 S) := by
  intro x0 x1 x2 x3 x4 S h0 h1 h2 h3 h4
  unfold f_X5_passWeek_b72
  refine j_iincL (q := 4) dX5_passWeek_72 rfl (Nat.le_of_ble_eq_true rfl) (fun v9 hv9 => ?_)
  refine j_lv (lv' := [(4, 0, v9), (0, 2, x0), (1, 2, x1), (2, 0, x2), (3, 0, x3)]) rfl ?_
  refine j_goto (tgt := 10) dX5_passWeek_75 rfl ?_
  refine j_sub [1, 2, 3, 4, 0] rfl ?_
  exact k10 x0 x1 x2 x3 v9 S h0 h1 h2 h3 hv9
def f_X5_passWeek_b10B (r10 : Int → Int → Int → Int → Int → jSt → Option (Int × jSt)) (x0 : Int) (x1 : Int) (x2 : Int) (x3 : Int) (x4 : Int) (S : jSt) : Option (Int × jSt) :=
  fgetr S x0 5 2 (fun v3 => fget S v3 10 0 (fun v4 => if v4 ≤ x4 then fget S x1 1 7 (fun v5 => fput S x1 1 7 (w32 (v5 + 1)) (fun S6 => some (x3, S6))) else fcallv S x1 1 (f_X1_keepsAt x1 x4 x2 S) (fun v7 S8 => if v7 = 0 then f_X5_passWeek_b72 r10 x0 x1 x2 x3 x4 S8 else fgetr S8 x0 5 2 (fun v10 => fget S8 v10 10 1 (fun v11 => if v11 = 0 then f_X5_passWeek_b72 r10 x0 x1 x2 x3 x4 S8 else fcallv S8 x0 5 (f_X5_warm x0 x1 x4 S8) (fun v12 S13 => fcallv S13 x0 5 (f_X5_findWinner x0 x1 x4 S13) (fun v14 S15 => fcallv S15 x0 5 (f_X5_handOver x0 x1 x4 S15) (fun v16 S17 => if v16 = 0 then f_X5_passWeek_b72 r10 x0 x1 x2 x3 x4 S17 else flet (w32 (x3 + 1)) (fun v18 => f_X5_passWeek_b72 r10 x0 x1 x2 v18 x4 S17)))))))))
theorem p_f_X5_passWeek_b10B {G : jG} {d : Nat} {S0 : jSt} (hd0 : 5 ≤ d) {r10 : Int → Int → Int → Int → Int → jSt → Option (Int × jSt)} (k10 : ∀ (x0 : Int) (x1 : Int) (x2 : Int) (x3 : Int) (x4 : Int) (S : jSt), (0 ≤ (x0)) → (0 ≤ (x1)) → (R32 (x2)) → (R32 (x3)) → (R32 (x4)) → J G yX5_passWeek cX5_passWeek 5 (some .int) d S0 10 [(0, 2, x0), (1, 2, x1), (2, 0, x2), (3, 0, x3), (4, 0, x4)] [] S (r10 x0 x1 x2 x3 x4 S)) : ∀ (x0 : Int) (x1 : Int) (x2 : Int) (x3 : Int) (x4 : Int) (S : jSt), (0 ≤ (x0)) → (0 ≤ (x1)) → (R32 (x2)) → (R32 (x3)) → (R32 (x4)) → J G yX5_passWeek cX5_passWeek 5 (some .int) d S0 10 [(0, 2, x0), (1, 2, x1), (2, 0, x2), (3, 0, x3), (4, 0, x4)] [] S (f_X5_passWeek_b10B r10 x0 x1 x2 x3 x4 S) := by
  intro x0 x1 x2 x3 x4 S h0 h1 h2 h3 h4
  unfold f_X5_passWeek_b10B
  refine j_iload 4 dX5_passWeek_10 rfl ?_
  refine j_aload_n 0 dX5_passWeek_12 rfl rfl ?_
  refine j_getr (ci := 5) (k := 2) rfl in_X5 (Nat.le_of_ble_eq_true rfl) rfl rfl fl_X5_18 dX5_passWeek_13 (fun (v3 : Int) (hv3 : 0 ≤ v3) => ?_)
  refine j_get (ci := 10) (k := 0) (t := 0) rfl in_X10 (Nat.le_of_ble_eq_true rfl) rfl rfl fl_X5_114 dX5_passWeek_16 (fun (v4 : Int) (hv4 : R32 (v4)) => ?_)
  refine j_icmp_ge (tgt := 78) h4 hv4 dX5_passWeek_19 rfl (fun _ => ?_) (fun _ => ?_)
  · refine j_aload_n 1 dX5_passWeek_78 rfl rfl ?_
    refine j_dup dX5_passWeek_79 (fun h => nomatch h) ?_
    refine j_get (ci := 1) (k := 7) (t := 0) rfl in_X1 (Nat.le_of_ble_eq_true rfl) rfl rfl fl_X5_131 dX5_passWeek_80 (fun (v5 : Int) (hv5 : R32 (v5)) => ?_)
    refine j_iconst dX5_passWeek_83 ?_
    refine j_iadd dX5_passWeek_84 ?_
    refine j_puti (ci := 1) (k := 7) (ty0 := tyX1) rfl in_X1 (Nat.le_of_ble_eq_true rfl) rfl tyX1_ok nmX1 rfl rfl (by decide +kernel) (w32_R _) fl_X5_131 dX5_passWeek_85 (fun S6 => ?_)
    refine j_iload_n 3 dX5_passWeek_88 rfl rfl ?_
    exact j_ireturn h3 dX5_passWeek_89
  · refine j_aload_n 1 dX5_passWeek_22 rfl rfl ?_
    refine j_iload 4 dX5_passWeek_23 rfl ?_
    refine j_iload_n 2 dX5_passWeek_25 rfl rfl ?_
    refine j_callV (ci := 1) (As := [(0, x4), (0, x2)]) (st := []) kc_X1_keepsAt (c_X1_keepsAt x1 x4 x2 S h1 h4 h2) rfl lm_X5_117 ki_X1_keepsAt ke_X1_keepsAt rfl (Nat.le_of_ble_eq_true rfl) (Nat.le_trans (m := 5) (Nat.le_of_ble_eq_true rfl) hd0) dX5_passWeek_26 (fun (v7 : Int) (S8 : jSt) (hv7 : (v7) = 0 ∨ (v7) = 1) => ?_)
    refine j_if_eq (tgt := 72) (jZ_R hv7) dX5_passWeek_29 rfl (fun _ => ?_) (fun _ => ?_)
    · exact p_f_X5_passWeek_b72 hd0 k10 x0 x1 x2 x3 x4 S8 h0 h1 h2 h3 h4
    · refine j_aload_n 0 dX5_passWeek_32 rfl rfl ?_
      refine j_getr (ci := 5) (k := 2) rfl in_X5 (Nat.le_of_ble_eq_true rfl) rfl rfl fl_X5_18 dX5_passWeek_33 (fun (v10 : Int) (hv10 : 0 ≤ v10) => ?_)
      refine j_get (ci := 10) (k := 1) (t := 0) rfl in_X10 (Nat.le_of_ble_eq_true rfl) rfl rfl fl_X5_78 dX5_passWeek_36 (fun (v11 : Int) (hv11 : R32 (v11)) => ?_)
      refine j_if_ne (tgt := 45) hv11 dX5_passWeek_39 rfl (fun _ => ?_) (fun _ => ?_)
      · refine j_aload_n 0 dX5_passWeek_45 rfl rfl ?_
        refine j_aload_n 1 dX5_passWeek_46 rfl rfl ?_
        refine j_iload 4 dX5_passWeek_47 rfl ?_
        refine j_callV (ci := 5) (As := [(2, x1), (0, x4)]) (st := []) kc_X5_warm (c_X5_warm x0 x1 x4 S8 h0 h1 h4) rfl lm_X5_121 ki_X5_warm ke_X5_warm rfl (Nat.le_of_ble_eq_true rfl) (Nat.le_trans (m := 5) (Nat.le_of_ble_eq_true rfl) hd0) dX5_passWeek_49 (fun v12 S13 _ => ?_)
        refine j_aload_n 0 dX5_passWeek_52 rfl rfl ?_
        refine j_aload_n 1 dX5_passWeek_53 rfl rfl ?_
        refine j_iload 4 dX5_passWeek_54 rfl ?_
        refine j_callV (ci := 5) (As := [(2, x1), (0, x4)]) (st := []) kc_X5_findWinner (c_X5_findWinner x0 x1 x4 S13 h0 h1 h4) rfl lm_X5_125 ki_X5_findWinner ke_X5_findWinner rfl (Nat.le_of_ble_eq_true rfl) (Nat.le_trans (m := 5) (Nat.le_of_ble_eq_true rfl) hd0) dX5_passWeek_56 (fun v14 S15 _ => ?_)
        refine j_aload_n 0 dX5_passWeek_59 rfl rfl ?_
        refine j_aload_n 1 dX5_passWeek_60 rfl rfl ?_
        refine j_iload 4 dX5_passWeek_61 rfl ?_
        refine j_callV (ci := 5) (As := [(2, x1), (0, x4)]) (st := []) kc_X5_handOver (c_X5_handOver x0 x1 x4 S15 h0 h1 h4) rfl lm_X5_128 ki_X5_handOver ke_X5_handOver rfl (Nat.le_of_ble_eq_true rfl) (Nat.le_trans (m := 5) (Nat.le_of_ble_eq_true rfl) hd0) dX5_passWeek_63 (fun (v16 : Int) (S17 : jSt) (hv16 : (v16) = 0 ∨ (v16) = 1) => ?_)
        refine j_if_eq (tgt := 72) (jZ_R hv16) dX5_passWeek_66 rfl (fun _ => ?_) (fun _ => ?_)
        · exact p_f_X5_passWeek_b72 hd0 k10 x0 x1 x2 x3 x4 S17 h0 h1 h2 h3 h4
        · refine j_iincL (q := 3) dX5_passWeek_69 rfl (Nat.le_of_ble_eq_true rfl) (fun v18 hv18 => ?_)
          refine j_lv (lv' := [(3, 0, v18), (0, 2, x0), (1, 2, x1), (2, 0, x2), (4, 0, x4)]) rfl ?_
          refine j_sub [1, 2, 3, 0, 4] rfl ?_
          exact p_f_X5_passWeek_b72 hd0 k10 x0 x1 x2 v18 x4 S17 h0 h1 h2 hv18 h4
      · refine j_goto (tgt := 72) dX5_passWeek_42 rfl ?_
        exact p_f_X5_passWeek_b72 hd0 k10 x0 x1 x2 x3 x4 S8 h0 h1 h2 h3 h4
def f_X5_passWeek_b10 : Int → Int → Int → Int → Int → jSt → Option (Int × jSt) := jrep (β := Int → Int → Int → Int → Int → jSt → Option (Int × jSt)) (fun _ _ _ _ _ _ => none) (fun r => f_X5_passWeek_b10B r) jN
theorem p_f_X5_passWeek_b10 {G : jG} {d : Nat} {S0 : jSt} (hd0 : 5 ≤ d) : ∀ (x0 : Int) (x1 : Int) (x2 : Int) (x3 : Int) (x4 : Int) (S : jSt), (0 ≤ (x0)) → (0 ≤ (x1)) → (R32 (x2)) → (R32 (x3)) → (R32 (x4)) → J G yX5_passWeek cX5_passWeek 5 (some .int) d S0 10 [(0, 2, x0), (1, 2, x1), (2, 0, x2), (3, 0, x3), (4, 0, x4)] [] S (f_X5_passWeek_b10  x0 x1 x2 x3 x4 S) :=
  jrep_ind (P := fun (r : Int → Int → Int → Int → Int → jSt → Option (Int × jSt)) => ∀ (x0 : Int) (x1 : Int) (x2 : Int) (x3 : Int) (x4 : Int) (S : jSt), (0 ≤ (x0)) → (0 ≤ (x1)) → (R32 (x2)) → (R32 (x3)) → (R32 (x4)) → J G yX5_passWeek cX5_passWeek 5 (some .int) d S0 10 [(0, 2, x0), (1, 2, x1), (2, 0, x2), (3, 0, x3), (4, 0, x4)] [] S (r x0 x1 x2 x3 x4 S)) (by intros; exact j_none) (fun r k => p_f_X5_passWeek_b10B hd0 k) jN
def f_X5_passWeek (a0 : Int) (a1 : Int) (S : jSt) : Option (Int × jSt) :=
  fcallv S a1 1 (f_X1_saleFloor a1 S) (fun v1 S2 => f_X5_passWeek_b10 a0 a1 v1 0 0 S2)
theorem e_X5_passWeek {G : jG} {d : Nat} {S0 : jSt} (hd0 : 5 ≤ d) (a0 : Int) (a1 : Int) (S : jSt) (h0 : 0 ≤ (a0)) (h1 : 0 ≤ (a1)) : J G yX5_passWeek cX5_passWeek 5 (some .int) d S0 0 [(0, 2, a0), (1, 2, a1)] [] S (f_X5_passWeek a0 a1 S) := by
  unfold f_X5_passWeek
  refine j_aload_n 1 dX5_passWeek_0 rfl rfl ?_
  refine j_callV (ci := 1) (As := []) (st := []) kc_X1_saleFloor (c_X1_saleFloor a1 S h1) rfl lm_X5_106 ki_X1_saleFloor ke_X1_saleFloor rfl (Nat.le_of_ble_eq_true rfl) (Nat.le_trans (m := 5) (Nat.le_of_ble_eq_true rfl) hd0) dX5_passWeek_1 (fun (v1 : Int) (S2 : jSt) (hv1 : R32 (v1)) => ?_)
  refine j_istore_n (lv' := [(2, 0, v1), (0, 2, a0), (1, 2, a1)]) dX5_passWeek_4 rfl (Nat.le_of_ble_eq_true rfl) rfl ?_
  refine j_iconst dX5_passWeek_5 ?_
  refine j_istore_n (lv' := [(3, 0, 0), (2, 0, v1), (0, 2, a0), (1, 2, a1)]) dX5_passWeek_6 rfl (Nat.le_of_ble_eq_true rfl) rfl ?_
  refine j_iconst dX5_passWeek_7 ?_
  refine j_istore (lv' := [(4, 0, 0), (3, 0, 0), (2, 0, v1), (0, 2, a0), (1, 2, a1)]) dX5_passWeek_8 (Nat.le_of_ble_eq_true rfl) rfl ?_
  refine j_sub [3, 4, 2, 1, 0] rfl ?_
  exact p_f_X5_passWeek_b10 hd0 a0 a1 v1 0 0 S2 h0 h1 hv1 (jZ_R jz0) (jZ_R jz0)
theorem c_X5_passWeek {G : jG} (a0 : Int) (a1 : Int) (S : jSt) (h0 : 0 ≤ (a0)) (h1 : 0 ≤ (a1)) : CT G yX5_passWeek cX5_passWeek 5 (some .int) 5 ([(2, a0), (2, a1)].map jval) S (f_X5_passWeek a0 a1 S) := ct_of [(2, a0), (2, a1)] (by decide) rfl (Nat.le_of_ble_eq_true rfl) (e_X5_passWeek (Nat.le_refl _) a0 a1 S h0 h1)
-- X11_foretold
def f_X11_foretold_b35 (S : jSt) : Option (Int × jSt) :=
  some ((-2), S)
theorem p_f_X11_foretold_b35 {G : jG} {d : Nat} {S0 : jSt} (hd0 : 6 ≤ d) : ∀ (S : jSt), J G yX11_foretold cX11_foretold 7 (some .int) d S0 35 [] [] S (f_X11_foretold_b35   S) := by
  intro S
  unfold f_X11_foretold_b35
  refine j_bipush dX11_foretold_35 (by decide) ?_
  exact j_ireturn (j_r32 (-2) rfl) dX11_foretold_37
def f_X11_foretold_b132 (x0 : Int) (S : jSt) : Option (Int × jSt) :=
  some (x0, S)
theorem p_f_X11_foretold_b132 {G : jG} {d : Nat} {S0 : jSt} (hd0 : 6 ≤ d) : ∀ (x0 : Int) (S : jSt), (R32 (x0)) → J G yX11_foretold cX11_foretold 7 (some .int) d S0 132 [] [(0, x0)] S (f_X11_foretold_b132  x0 S) := by
  intro x0 S h0
  unfold f_X11_foretold_b132
  exact j_ireturn h0 dX11_foretold_132
def f_X11_foretold_b72B (r72 : Int → Int → Int → Int → Int → Int → jSt → Option (Int × jSt)) (x0 : Int) (x1 : Int) (x2 : Int) (x3 : Int) (x4 : Int) (x5 : Int) (S : jSt) : Option (Int × jSt) :=
  if x3 ≤ x5 then if x1 = 0 then fgetr S x0 11 10 (fun v15 => fget S v15 1 6 (fun v16 => some (v16, S))) else if x1 = 1 then fgetr S x0 11 10 (fun v12 => fgetr S v12 1 0 (fun v13 => fald S v13 x2 1 (fun v14 => f_X11_foretold_b132 v14 S))) else f_X11_foretold_b132 x4 S else fgetr S x0 11 8 (fun v17 => fgetr S x0 11 10 (fun v18 => fcallv S v17 5 (f_X5_passWeek v17 v18 S) (fun v19 S20 => flet (w32 (x4 + v19)) (fun v21 => flet (w32 (x5 + 1)) (fun v22 => r72 x0 x1 x2 x3 v21 v22 S20)))))
theorem p_f_X11_foretold_b72B {G : jG} {d : Nat} {S0 : jSt} (hd0 : 6 ≤ d) {r72 : Int → Int → Int → Int → Int → Int → jSt → Option (Int × jSt)} (k72 : ∀ (x0 : Int) (x1 : Int) (x2 : Int) (x3 : Int) (x4 : Int) (x5 : Int) (S : jSt), (0 ≤ (x0)) → (R32 (x1)) → (R32 (x2)) → (R32 (x3)) → (R32 (x4)) → (R32 (x5)) → J G yX11_foretold cX11_foretold 7 (some .int) d S0 72 [(0, 2, x0), (2, 0, x1), (3, 0, x2), (4, 0, x3), (5, 0, x4), (6, 0, x5)] [] S (r72 x0 x1 x2 x3 x4 x5 S)) : ∀ (x0 : Int) (x1 : Int) (x2 : Int) (x3 : Int) (x4 : Int) (x5 : Int) (S : jSt), (0 ≤ (x0)) → (R32 (x1)) → (R32 (x2)) → (R32 (x3)) → (R32 (x4)) → (R32 (x5)) → J G yX11_foretold cX11_foretold 7 (some .int) d S0 72 [(0, 2, x0), (2, 0, x1), (3, 0, x2), (4, 0, x3), (5, 0, x4), (6, 0, x5)] [] S (f_X11_foretold_b72B r72 x0 x1 x2 x3 x4 x5 S) := by
  intro x0 x1 x2 x3 x4 x5 S h0 h1 h2 h3 h4 h5
  unfold f_X11_foretold_b72B
  refine j_iload 5 dX11_foretold_72 rfl ?_
  refine j_iload 3 dX11_foretold_74 rfl ?_
  refine j_icmp_ge (tgt := 101) h5 h3 dX11_foretold_76 rfl (fun _ => ?_) (fun _ => ?_)
  · refine j_iload_n 1 dX11_foretold_101 rfl rfl ?_
    refine j_if_ne (tgt := 113) h1 dX11_foretold_102 rfl (fun _ => ?_) (fun _ => ?_)
    · refine j_iload_n 1 dX11_foretold_113 rfl rfl ?_
      refine j_iconst dX11_foretold_114 ?_
      refine j_icmp_ne (tgt := 130) h1 (jZ_R jz1) dX11_foretold_115 rfl (fun _ => ?_) (fun _ => ?_)
      · refine j_iload 4 dX11_foretold_130 rfl ?_
        refine j_sub [] rfl ?_
        exact p_f_X11_foretold_b132 hd0 x4 S h4
      · refine j_aload_n 0 dX11_foretold_118 rfl rfl ?_
        refine j_getr (ci := 11) (k := 10) rfl in_X11 (Nat.le_of_ble_eq_true rfl) rfl rfl fl_X11_73 dX11_foretold_119 (fun (v12 : Int) (hv12 : 0 ≤ v12) => ?_)
        refine j_getr (ci := 1) (k := 0) rfl in_X1 (Nat.le_of_ble_eq_true rfl) rfl rfl fl_X11_182 dX11_foretold_122 (fun (v13 : Int) (hv13 : 0 ≤ v13) => ?_)
        refine j_iload_n 2 dX11_foretold_125 rfl rfl ?_
        refine j_iaload h2 dX11_foretold_126 (fun (v14 : Int) (hv14 : R32 (v14)) => ?_)
        refine j_goto (tgt := 132) dX11_foretold_127 rfl ?_
        refine j_sub [] rfl ?_
        exact p_f_X11_foretold_b132 hd0 v14 S hv14
    · refine j_aload_n 0 dX11_foretold_105 rfl rfl ?_
      refine j_getr (ci := 11) (k := 10) rfl in_X11 (Nat.le_of_ble_eq_true rfl) rfl rfl fl_X11_73 dX11_foretold_106 (fun (v15 : Int) (hv15 : 0 ≤ v15) => ?_)
      refine j_get (ci := 1) (k := 6) (t := 0) rfl in_X1 (Nat.le_of_ble_eq_true rfl) rfl rfl fl_X11_278 dX11_foretold_109 (fun (v16 : Int) (hv16 : R32 (v16)) => ?_)
      exact j_ireturn hv16 dX11_foretold_112
  · refine j_iload 4 dX11_foretold_79 rfl ?_
    refine j_aload_n 0 dX11_foretold_81 rfl rfl ?_
    refine j_getr (ci := 11) (k := 8) rfl in_X11 (Nat.le_of_ble_eq_true rfl) rfl rfl fl_X11_60 dX11_foretold_82 (fun (v17 : Int) (hv17 : 0 ≤ v17) => ?_)
    refine j_aload_n 0 dX11_foretold_85 rfl rfl ?_
    refine j_getr (ci := 11) (k := 10) rfl in_X11 (Nat.le_of_ble_eq_true rfl) rfl rfl fl_X11_73 dX11_foretold_86 (fun (v18 : Int) (hv18 : 0 ≤ v18) => ?_)
    refine j_callV (ci := 5) (As := [(2, v18)]) (st := [(0, x4)]) kc_X5_passWeek (c_X5_passWeek v17 v18 S hv17 hv18) rfl lm_X11_226 ki_X5_passWeek ke_X5_passWeek rfl (Nat.le_of_ble_eq_true rfl) (Nat.le_trans (m := 6) (Nat.le_of_ble_eq_true rfl) hd0) dX11_foretold_89 (fun (v19 : Int) (S20 : jSt) (hv19 : R32 (v19)) => ?_)
    refine j_iadd dX11_foretold_92 ?_
    refine j_leti (w32_R _) (fun v21 hv21 => ?_)
    refine j_istore (lv' := [(5, 0, v21), (0, 2, x0), (2, 0, x1), (3, 0, x2), (4, 0, x3), (6, 0, x5)]) dX11_foretold_93 (Nat.le_of_ble_eq_true rfl) rfl ?_
    refine j_iincL (q := 5) dX11_foretold_95 rfl (Nat.le_of_ble_eq_true rfl) (fun v22 hv22 => ?_)
    refine j_lv (lv' := [(6, 0, v22), (5, 0, v21), (0, 2, x0), (2, 0, x1), (3, 0, x2), (4, 0, x3)]) rfl ?_
    refine j_goto (tgt := 72) dX11_foretold_98 rfl ?_
    refine j_sub [2, 3, 4, 5, 1, 0] rfl ?_
    exact k72 x0 x1 x2 x3 v21 v22 S20 h0 h1 h2 h3 hv21 hv22
def f_X11_foretold_b72 : Int → Int → Int → Int → Int → Int → jSt → Option (Int × jSt) := jrep (β := Int → Int → Int → Int → Int → Int → jSt → Option (Int × jSt)) (fun _ _ _ _ _ _ _ => none) (fun r => f_X11_foretold_b72B r) jN
theorem p_f_X11_foretold_b72 {G : jG} {d : Nat} {S0 : jSt} (hd0 : 6 ≤ d) : ∀ (x0 : Int) (x1 : Int) (x2 : Int) (x3 : Int) (x4 : Int) (x5 : Int) (S : jSt), (0 ≤ (x0)) → (R32 (x1)) → (R32 (x2)) → (R32 (x3)) → (R32 (x4)) → (R32 (x5)) → J G yX11_foretold cX11_foretold 7 (some .int) d S0 72 [(0, 2, x0), (2, 0, x1), (3, 0, x2), (4, 0, x3), (5, 0, x4), (6, 0, x5)] [] S (f_X11_foretold_b72  x0 x1 x2 x3 x4 x5 S) :=
  jrep_ind (P := fun (r : Int → Int → Int → Int → Int → Int → jSt → Option (Int × jSt)) => ∀ (x0 : Int) (x1 : Int) (x2 : Int) (x3 : Int) (x4 : Int) (x5 : Int) (S : jSt), (0 ≤ (x0)) → (R32 (x1)) → (R32 (x2)) → (R32 (x3)) → (R32 (x4)) → (R32 (x5)) → J G yX11_foretold cX11_foretold 7 (some .int) d S0 72 [(0, 2, x0), (2, 0, x1), (3, 0, x2), (4, 0, x3), (5, 0, x4), (6, 0, x5)] [] S (r x0 x1 x2 x3 x4 x5 S)) (by intros; exact j_none) (fun r k => p_f_X11_foretold_b72B hd0 k) jN
def f_X11_foretold_b38 (x0 : Int) (x1 : Int) (x2 : Int) (x3 : Int) (S : jSt) : Option (Int × jSt) :=
  fgetr S x0 11 10 (fun v5 => fgetr S x0 11 1 (fun v6 => fcallv S v5 1 (f_X1_copyFrom v5 v6 S) (fun v7 S8 => fgetr S8 x0 11 1 (fun v9 => fget S8 v9 1 7 (fun v10 => flet (imin x1 (w32 (9999 - v10))) (fun v11 => f_X11_foretold_b72 x0 x2 x3 v11 0 0 S8))))))
theorem p_f_X11_foretold_b38 {G : jG} {d : Nat} {S0 : jSt} (hd0 : 6 ≤ d) : ∀ (x0 : Int) (x1 : Int) (x2 : Int) (x3 : Int) (S : jSt), (0 ≤ (x0)) → (R32 (x1)) → (R32 (x2)) → (R32 (x3)) → J G yX11_foretold cX11_foretold 7 (some .int) d S0 38 [(0, 2, x0), (1, 0, x1), (2, 0, x2), (3, 0, x3)] [] S (f_X11_foretold_b38  x0 x1 x2 x3 S) := by
  intro x0 x1 x2 x3 S h0 h1 h2 h3
  unfold f_X11_foretold_b38
  refine j_aload_n 0 dX11_foretold_38 rfl rfl ?_
  refine j_getr (ci := 11) (k := 10) rfl in_X11 (Nat.le_of_ble_eq_true rfl) rfl rfl fl_X11_73 dX11_foretold_39 (fun (v5 : Int) (hv5 : 0 ≤ v5) => ?_)
  refine j_aload_n 0 dX11_foretold_42 rfl rfl ?_
  refine j_getr (ci := 11) (k := 1) rfl in_X11 (Nat.le_of_ble_eq_true rfl) rfl rfl fl_X11_19 dX11_foretold_43 (fun (v6 : Int) (hv6 : 0 ≤ v6) => ?_)
  refine j_callV (ci := 1) (As := [(2, v6)]) (st := []) kc_X1_copyFrom (c_X1_copyFrom v5 v6 S hv5 hv6) rfl lm_X11_294 ki_X1_copyFrom ke_X1_copyFrom rfl (Nat.le_of_ble_eq_true rfl) (Nat.le_trans (m := 6) (Nat.le_of_ble_eq_true rfl) hd0) dX11_foretold_46 (fun v7 S8 _ => ?_)
  refine j_iload_n 1 dX11_foretold_49 rfl rfl ?_
  refine j_sipush dX11_foretold_50 (by decide) ?_
  refine j_aload_n 0 dX11_foretold_53 rfl rfl ?_
  refine j_getr (ci := 11) (k := 1) rfl in_X11 (Nat.le_of_ble_eq_true rfl) rfl rfl fl_X11_19 dX11_foretold_54 (fun (v9 : Int) (hv9 : 0 ≤ v9) => ?_)
  refine j_get (ci := 1) (k := 7) (t := 0) rfl in_X1 (Nat.le_of_ble_eq_true rfl) rfl rfl fl_X11_193 dX11_foretold_57 (fun (v10 : Int) (hv10 : R32 (v10)) => ?_)
  refine j_isub dX11_foretold_60 ?_
  refine j_mmin h1 (w32_R _) lx_X11_258 mx_s_mmin mx_i mx_c_mmin (Nat.le_of_ble_eq_true rfl) (Nat.le_trans (Nat.le_of_ble_eq_true rfl) hd0) dX11_foretold_61 ?_
  refine j_leti (imin_R h1 (w32_R _)) (fun v11 hv11 => ?_)
  refine j_istore (lv' := [(4, 0, v11), (0, 2, x0), (1, 0, x1), (2, 0, x2), (3, 0, x3)]) dX11_foretold_64 (Nat.le_of_ble_eq_true rfl) rfl ?_
  refine j_iconst dX11_foretold_66 ?_
  refine j_istore (lv' := [(5, 0, 0), (4, 0, v11), (0, 2, x0), (1, 0, x1), (2, 0, x2), (3, 0, x3)]) dX11_foretold_67 (Nat.le_of_ble_eq_true rfl) rfl ?_
  refine j_iconst dX11_foretold_69 ?_
  refine j_istore (lv' := [(6, 0, 0), (5, 0, 0), (4, 0, v11), (0, 2, x0), (1, 0, x1), (2, 0, x2), (3, 0, x3)]) dX11_foretold_70 (Nat.le_of_ble_eq_true rfl) rfl ?_
  refine j_sub [3, 5, 6, 2, 1, 0] rfl ?_
  exact p_f_X11_foretold_b72 hd0 x0 x2 x3 v11 0 0 S8 h0 h2 h3 hv11 (jZ_R jz0) (jZ_R jz0)
def f_X11_foretold (a0 : Int) (a1 : Int) (a2 : Int) (a3 : Int) (S : jSt) : Option (Int × jSt) :=
  fcall (f_X11_within a1 1 60 S) (fun v1 S2 => if v1 = 0 then f_X11_foretold_b35 S2 else fcall (f_X11_within a2 0 2 S2) (fun v3 S4 => if v3 = 0 then f_X11_foretold_b35 S4 else if a2 = 1 then fgetr S4 a0 11 0 (fun v23 => fcallv S4 v23 10 (f_X10_hasLot v23 a3 S4) (fun v24 S25 => if v24 = 0 then f_X11_foretold_b35 S25 else f_X11_foretold_b38 a0 a1 a2 a3 S25)) else f_X11_foretold_b38 a0 a1 a2 a3 S4))
theorem e_X11_foretold {G : jG} {d : Nat} {S0 : jSt} (hd0 : 6 ≤ d) (a0 : Int) (a1 : Int) (a2 : Int) (a3 : Int) (S : jSt) (h0 : 0 ≤ (a0)) (h1 : R32 (a1)) (h2 : R32 (a2)) (h3 : R32 (a3)) : J G yX11_foretold cX11_foretold 7 (some .int) d S0 0 [(0, 2, a0), (1, 0, a1), (2, 0, a2), (3, 0, a3)] [] S (f_X11_foretold a0 a1 a2 a3 S) := by
  unfold f_X11_foretold
  refine j_iload_n 1 dX11_foretold_0 rfl rfl ?_
  refine j_iconst dX11_foretold_1 ?_
  refine j_bipush dX11_foretold_2 (by decide) ?_
  refine j_callS (As := [(0, a1), (0, 1), (0, 60)]) (st := []) kc_X11_within (c_X11_within a1 1 60 S h1 (jZ_R jz1) (j_r32 60 rfl)) lm_X11_76 ks_X11_within rfl (Nat.le_of_ble_eq_true rfl) (Nat.le_trans (m := 6) (Nat.le_of_ble_eq_true rfl) hd0) dX11_foretold_4 (fun (v1 : Int) (S2 : jSt) (hv1 : (v1) = 0 ∨ (v1) = 1) => ?_)
  refine j_if_eq (tgt := 35) (jZ_R hv1) dX11_foretold_7 rfl (fun _ => ?_) (fun _ => ?_)
  · refine j_sub [] rfl ?_
    exact p_f_X11_foretold_b35 hd0 S2
  · refine j_iload_n 2 dX11_foretold_10 rfl rfl ?_
    refine j_iconst dX11_foretold_11 ?_
    refine j_iconst dX11_foretold_12 ?_
    refine j_callS (As := [(0, a2), (0, 0), (0, 2)]) (st := []) kc_X11_within (c_X11_within a2 0 2 S2 h2 (jZ_R jz0) (j_r32 2 rfl)) lm_X11_76 ks_X11_within rfl (Nat.le_of_ble_eq_true rfl) (Nat.le_trans (m := 6) (Nat.le_of_ble_eq_true rfl) hd0) dX11_foretold_13 (fun (v3 : Int) (S4 : jSt) (hv3 : (v3) = 0 ∨ (v3) = 1) => ?_)
    refine j_if_eq (tgt := 35) (jZ_R hv3) dX11_foretold_16 rfl (fun _ => ?_) (fun _ => ?_)
    · refine j_sub [] rfl ?_
      exact p_f_X11_foretold_b35 hd0 S4
    · refine j_iload_n 2 dX11_foretold_19 rfl rfl ?_
      refine j_iconst dX11_foretold_20 ?_
      refine j_icmp_ne (tgt := 38) h2 (jZ_R jz1) dX11_foretold_21 rfl (fun _ => ?_) (fun _ => ?_)
      · exact p_f_X11_foretold_b38 hd0 a0 a1 a2 a3 S4 h0 h1 h2 h3
      · refine j_aload_n 0 dX11_foretold_24 rfl rfl ?_
        refine j_getr (ci := 11) (k := 0) rfl in_X11 (Nat.le_of_ble_eq_true rfl) rfl rfl fl_X11_10 dX11_foretold_25 (fun (v23 : Int) (hv23 : 0 ≤ v23) => ?_)
        refine j_iload_n 3 dX11_foretold_28 rfl rfl ?_
        refine j_callV (ci := 10) (As := [(0, a3)]) (st := []) kc_X10_hasLot (c_X10_hasLot v23 a3 S4 hv23 h3) rfl lm_X11_111 ki_X10_hasLot ke_X10_hasLot rfl (Nat.le_of_ble_eq_true rfl) (Nat.le_trans (m := 6) (Nat.le_of_ble_eq_true rfl) hd0) dX11_foretold_29 (fun (v24 : Int) (S25 : jSt) (hv24 : (v24) = 0 ∨ (v24) = 1) => ?_)
        refine j_if_ne (tgt := 38) (jZ_R hv24) dX11_foretold_32 rfl (fun _ => ?_) (fun _ => ?_)
        · exact p_f_X11_foretold_b38 hd0 a0 a1 a2 a3 S25 h0 h1 h2 h3
        · refine j_sub [] rfl ?_
          exact p_f_X11_foretold_b35 hd0 S25
theorem c_X11_foretold {G : jG} (a0 : Int) (a1 : Int) (a2 : Int) (a3 : Int) (S : jSt) (h0 : 0 ≤ (a0)) (h1 : R32 (a1)) (h2 : R32 (a2)) (h3 : R32 (a3)) : CT G yX11_foretold cX11_foretold 7 (some .int) 6 ([(2, a0), (0, a1), (0, a2), (0, a3)].map jval) S (f_X11_foretold a0 a1 a2 a3 S) := ct_of [(2, a0), (0, a1), (0, a2), (0, a3)] (by decide) rfl (Nat.le_of_ble_eq_true rfl) (e_X11_foretold (Nat.le_refl _) a0 a1 a2 a3 S h0 h1 h2 h3)
-- X7_turn
def f_X7_turn (a0 : Int) (a1 : Int) (a2 : Int) (S : jSt) : Option (Int × jSt) :=
  fgetr S a0 7 0 (fun v1 => fald S v1 a1 1 (fun v2 => fast S v1 a1 1 (ixor32 v2 (ishl32 1 a2)) (fun S3 => fgetr S3 a0 7 0 (fun v4 => fald S3 v4 a2 1 (fun v5 => fast S3 v4 a2 1 (ixor32 v5 (ishl32 1 a1)) (fun S6 => some (0, S6)))))))
theorem e_X7_turn {G : jG} {d : Nat} {S0 : jSt} (hd0 : 1 ≤ d) (a0 : Int) (a1 : Int) (a2 : Int) (S : jSt) (h0 : 0 ≤ (a0)) (h1 : R32 (a1)) (h2 : R32 (a2)) : J G yX7_turn cX7_turn 3 none d S0 0 [(0, 2, a0), (1, 0, a1), (2, 0, a2)] [] S (f_X7_turn a0 a1 a2 S) := by
  unfold f_X7_turn
  refine j_aload_n 0 dX7_turn_0 rfl rfl ?_
  refine j_getr (ci := 7) (k := 0) rfl in_X7 (Nat.le_of_ble_eq_true rfl) rfl rfl fl_X7_9 dX7_turn_1 (fun (v1 : Int) (hv1 : 0 ≤ v1) => ?_)
  refine j_iload_n 1 dX7_turn_4 rfl rfl ?_
  refine j_dup2 dX7_turn_5 (fun h => nomatch h) (fun h => nomatch h) ?_
  refine j_iaload h1 dX7_turn_6 (fun (v2 : Int) (hv2 : R32 (v2)) => ?_)
  refine j_iconst dX7_turn_7 ?_
  refine j_iload_n 2 dX7_turn_8 rfl rfl ?_
  refine j_ishl dX7_turn_9 ?_
  refine j_ixor dX7_turn_10 ?_
  refine j_iastore h1 (ixor32_R _ _) dX7_turn_11 (fun S3 => ?_)
  refine j_aload_n 0 dX7_turn_12 rfl rfl ?_
  refine j_getr (ci := 7) (k := 0) rfl in_X7 (Nat.le_of_ble_eq_true rfl) rfl rfl fl_X7_9 dX7_turn_13 (fun (v4 : Int) (hv4 : 0 ≤ v4) => ?_)
  refine j_iload_n 2 dX7_turn_16 rfl rfl ?_
  refine j_dup2 dX7_turn_17 (fun h => nomatch h) (fun h => nomatch h) ?_
  refine j_iaload h2 dX7_turn_18 (fun (v5 : Int) (hv5 : R32 (v5)) => ?_)
  refine j_iconst dX7_turn_19 ?_
  refine j_iload_n 1 dX7_turn_20 rfl rfl ?_
  refine j_ishl dX7_turn_21 ?_
  refine j_ixor dX7_turn_22 ?_
  refine j_iastore h2 (ixor32_R _ _) dX7_turn_23 (fun S6 => ?_)
  exact j_return dX7_turn_24
theorem c_X7_turn {G : jG} (a0 : Int) (a1 : Int) (a2 : Int) (S : jSt) (h0 : 0 ≤ (a0)) (h1 : R32 (a1)) (h2 : R32 (a2)) : CT G yX7_turn cX7_turn 3 none 1 ([(2, a0), (0, a1), (0, a2)].map jval) S (f_X7_turn a0 a1 a2 S) := ct_of [(2, a0), (0, a1), (0, a2)] (by decide) rfl (Nat.le_of_ble_eq_true rfl) (e_X7_turn (Nat.le_refl _) a0 a1 a2 S h0 h1 h2)
-- X11_gone
def f_X11_gone_b23 (S : jSt) : Option (Int × jSt) :=
  some (0, S)
theorem p_f_X11_gone_b23 {G : jG} {d : Nat} {S0 : jSt} (hd0 : 3 ≤ d) : ∀ (S : jSt), J G yX11_gone cX11_gone 3 (some .boolean) d S0 23 [] [] S (f_X11_gone_b23   S) := by
  intro S
  unfold f_X11_gone_b23
  refine j_iconst dX11_gone_23 ?_
  exact j_zreturn jz0 dX11_gone_24
def f_X11_gone (a0 : Int) (a1 : Int) (a2 : Int) (S : jSt) : Option (Int × jSt) :=
  fcall (f_X11_unlikeFloors a1 a2 S) (fun v1 S2 => if v1 = 0 then f_X11_gone_b23 S2 else fgetr S2 a0 11 0 (fun v3 => fgetr S2 v3 10 14 (fun v4 => fcallv S2 v4 7 (f_X7_joins v4 a1 a2 S2) (fun v5 S6 => if v5 = 0 then f_X11_gone_b23 S6 else fgetr S6 a0 11 0 (fun v7 => fgetr S6 v7 10 14 (fun v8 => fcallv S6 v8 7 (f_X7_turn v8 a1 a2 S6) (fun v9 S10 => some (1, S10))))))))
theorem e_X11_gone {G : jG} {d : Nat} {S0 : jSt} (hd0 : 3 ≤ d) (a0 : Int) (a1 : Int) (a2 : Int) (S : jSt) (h0 : 0 ≤ (a0)) (h1 : R32 (a1)) (h2 : R32 (a2)) : J G yX11_gone cX11_gone 3 (some .boolean) d S0 0 [(0, 2, a0), (1, 0, a1), (2, 0, a2)] [] S (f_X11_gone a0 a1 a2 S) := by
  unfold f_X11_gone
  refine j_iload_n 1 dX11_gone_0 rfl rfl ?_
  refine j_iload_n 2 dX11_gone_1 rfl rfl ?_
  refine j_callS (As := [(0, a1), (0, a2)]) (st := []) kc_X11_unlikeFloors (c_X11_unlikeFloors a1 a2 S h1 h2) lm_X11_335 ks_X11_unlikeFloors rfl (Nat.le_of_ble_eq_true rfl) (Nat.le_trans (m := 3) (Nat.le_of_ble_eq_true rfl) hd0) dX11_gone_2 (fun (v1 : Int) (S2 : jSt) (hv1 : (v1) = 0 ∨ (v1) = 1) => ?_)
  refine j_if_eq (tgt := 23) (jZ_R hv1) dX11_gone_5 rfl (fun _ => ?_) (fun _ => ?_)
  · refine j_sub [] rfl ?_
    exact p_f_X11_gone_b23 hd0 S2
  · refine j_aload_n 0 dX11_gone_8 rfl rfl ?_
    refine j_getr (ci := 11) (k := 0) rfl in_X11 (Nat.le_of_ble_eq_true rfl) rfl rfl fl_X11_10 dX11_gone_9 (fun (v3 : Int) (hv3 : 0 ≤ v3) => ?_)
    refine j_getr (ci := 10) (k := 14) rfl in_X10 (Nat.le_of_ble_eq_true rfl) rfl rfl fl_X11_338 dX11_gone_12 (fun (v4 : Int) (hv4 : 0 ≤ v4) => ?_)
    refine j_iload_n 1 dX11_gone_15 rfl rfl ?_
    refine j_iload_n 2 dX11_gone_16 rfl rfl ?_
    refine j_callV (ci := 7) (As := [(0, a1), (0, a2)]) (st := []) kc_X7_joins (c_X7_joins v4 a1 a2 S2 hv4 h1 h2) rfl lm_X11_342 ki_X7_joins ke_X7_joins rfl (Nat.le_of_ble_eq_true rfl) (Nat.le_trans (m := 3) (Nat.le_of_ble_eq_true rfl) hd0) dX11_gone_17 (fun (v5 : Int) (S6 : jSt) (hv5 : (v5) = 0 ∨ (v5) = 1) => ?_)
    refine j_if_ne (tgt := 25) (jZ_R hv5) dX11_gone_20 rfl (fun _ => ?_) (fun _ => ?_)
    · refine j_aload_n 0 dX11_gone_25 rfl rfl ?_
      refine j_getr (ci := 11) (k := 0) rfl in_X11 (Nat.le_of_ble_eq_true rfl) rfl rfl fl_X11_10 dX11_gone_26 (fun (v7 : Int) (hv7 : 0 ≤ v7) => ?_)
      refine j_getr (ci := 10) (k := 14) rfl in_X10 (Nat.le_of_ble_eq_true rfl) rfl rfl fl_X11_338 dX11_gone_29 (fun (v8 : Int) (hv8 : 0 ≤ v8) => ?_)
      refine j_iload_n 1 dX11_gone_32 rfl rfl ?_
      refine j_iload_n 2 dX11_gone_33 rfl rfl ?_
      refine j_callV (ci := 7) (As := [(0, a1), (0, a2)]) (st := []) kc_X7_turn (c_X7_turn v8 a1 a2 S6 hv8 h1 h2) rfl lm_X11_347 ki_X7_turn ke_X7_turn rfl (Nat.le_of_ble_eq_true rfl) (Nat.le_trans (m := 3) (Nat.le_of_ble_eq_true rfl) hd0) dX11_gone_34 (fun v9 S10 _ => ?_)
      refine j_iconst dX11_gone_37 ?_
      exact j_zreturn jz1 dX11_gone_38
    · refine j_sub [] rfl ?_
      exact p_f_X11_gone_b23 hd0 S6
theorem c_X11_gone {G : jG} (a0 : Int) (a1 : Int) (a2 : Int) (S : jSt) (h0 : 0 ≤ (a0)) (h1 : R32 (a1)) (h2 : R32 (a2)) : CT G yX11_gone cX11_gone 3 (some .boolean) 3 ([(2, a0), (0, a1), (0, a2)].map jval) S (f_X11_gone a0 a1 a2 S) := ct_of [(2, a0), (0, a1), (0, a2)] (by decide) rfl (Nat.le_of_ble_eq_true rfl) (e_X11_gone (Nat.le_refl _) a0 a1 a2 S h0 h1 h2)
-- X11_image
def f_X11_image (a0 : Int) (S : jSt) : Option (Int × jSt) :=
  fgetr S a0 11 3 (fun v1 => fgetr S a0 11 0 (fun v2 => fcallv S v1 10 (f_X10_copyFrom v1 v2 S) (fun v3 S4 => fgetr S4 a0 11 4 (fun v5 => fgetr S4 a0 11 1 (fun v6 => fcallv S4 v5 1 (f_X1_copyFrom v5 v6 S4) (fun v7 S8 => fgetr S8 a0 11 5 (fun v9 => fgetr S8 a0 11 2 (fun v10 => fcallv S8 v9 8 (f_X8_copyFrom v9 v10 S8) (fun v11 S12 => fgetr S12 a0 11 1 (fun v13 => fget S12 v13 1 7 (fun v14 => some (v14, S12))))))))))))
theorem e_X11_image {G : jG} {d : Nat} {S0 : jSt} (hd0 : 3 ≤ d) (a0 : Int) (S : jSt) (h0 : 0 ≤ (a0)) : J G yX11_image cX11_image 1 (some .int) d S0 0 [(0, 2, a0)] [] S (f_X11_image a0 S) := by
  unfold f_X11_image
  refine j_aload_n 0 dX11_image_0 rfl rfl ?_
  refine j_getr (ci := 11) (k := 3) rfl in_X11 (Nat.le_of_ble_eq_true rfl) rfl rfl fl_X11_30 dX11_image_1 (fun (v1 : Int) (hv1 : 0 ≤ v1) => ?_)
  refine j_aload_n 0 dX11_image_4 rfl rfl ?_
  refine j_getr (ci := 11) (k := 0) rfl in_X11 (Nat.le_of_ble_eq_true rfl) rfl rfl fl_X11_10 dX11_image_5 (fun (v2 : Int) (hv2 : 0 ≤ v2) => ?_)
  refine j_callV (ci := 10) (As := [(2, v2)]) (st := []) kc_X10_copyFrom (c_X10_copyFrom v1 v2 S hv1 hv2) rfl lm_X11_417 ki_X10_copyFrom ke_X10_copyFrom rfl (Nat.le_of_ble_eq_true rfl) (Nat.le_trans (m := 3) (Nat.le_of_ble_eq_true rfl) hd0) dX11_image_8 (fun v3 S4 _ => ?_)
  refine j_aload_n 0 dX11_image_11 rfl rfl ?_
  refine j_getr (ci := 11) (k := 4) rfl in_X11 (Nat.le_of_ble_eq_true rfl) rfl rfl fl_X11_33 dX11_image_12 (fun (v5 : Int) (hv5 : 0 ≤ v5) => ?_)
  refine j_aload_n 0 dX11_image_15 rfl rfl ?_
  refine j_getr (ci := 11) (k := 1) rfl in_X11 (Nat.le_of_ble_eq_true rfl) rfl rfl fl_X11_19 dX11_image_16 (fun (v6 : Int) (hv6 : 0 ≤ v6) => ?_)
  refine j_callV (ci := 1) (As := [(2, v6)]) (st := []) kc_X1_copyFrom (c_X1_copyFrom v5 v6 S4 hv5 hv6) rfl lm_X11_294 ki_X1_copyFrom ke_X1_copyFrom rfl (Nat.le_of_ble_eq_true rfl) (Nat.le_trans (m := 3) (Nat.le_of_ble_eq_true rfl) hd0) dX11_image_19 (fun v7 S8 _ => ?_)
  refine j_aload_n 0 dX11_image_22 rfl rfl ?_
  refine j_getr (ci := 11) (k := 5) rfl in_X11 (Nat.le_of_ble_eq_true rfl) rfl rfl fl_X11_36 dX11_image_23 (fun (v9 : Int) (hv9 : 0 ≤ v9) => ?_)
  refine j_aload_n 0 dX11_image_26 rfl rfl ?_
  refine j_getr (ci := 11) (k := 2) rfl in_X11 (Nat.le_of_ble_eq_true rfl) rfl rfl fl_X11_26 dX11_image_27 (fun (v10 : Int) (hv10 : 0 ≤ v10) => ?_)
  refine j_callV (ci := 8) (As := [(2, v10)]) (st := []) kc_X8_copyFrom (c_X8_copyFrom v9 v10 S8 hv9 hv10) rfl lm_X11_419 ki_X8_copyFrom ke_X8_copyFrom rfl (Nat.le_of_ble_eq_true rfl) (Nat.le_trans (m := 3) (Nat.le_of_ble_eq_true rfl) hd0) dX11_image_30 (fun v11 S12 _ => ?_)
  refine j_aload_n 0 dX11_image_33 rfl rfl ?_
  refine j_getr (ci := 11) (k := 1) rfl in_X11 (Nat.le_of_ble_eq_true rfl) rfl rfl fl_X11_19 dX11_image_34 (fun (v13 : Int) (hv13 : 0 ≤ v13) => ?_)
  refine j_get (ci := 1) (k := 7) (t := 0) rfl in_X1 (Nat.le_of_ble_eq_true rfl) rfl rfl fl_X11_193 dX11_image_37 (fun (v14 : Int) (hv14 : R32 (v14)) => ?_)
  exact j_ireturn hv14 dX11_image_40
theorem c_X11_image {G : jG} (a0 : Int) (S : jSt) (h0 : 0 ≤ (a0)) : CT G yX11_image cX11_image 1 (some .int) 3 ([(2, a0)].map jval) S (f_X11_image a0 S) := ct_of [(2, a0)] (by decide) rfl (Nat.le_of_ble_eq_true rfl) (e_X11_image (Nat.le_refl _) a0 S h0)
-- X1_init
def f_X1_init (a0 : Int) (S : jSt) : Option (Int × jSt) :=
  fnewa S 1 12 (fun v1 S2 => fput S2 a0 1 0 v1 (fun S3 => fnewa S3 1 12 (fun v4 S5 => fput S5 a0 1 1 v4 (fun S6 => fnewa S6 1 5 (fun v7 S8 => fput S8 a0 1 2 v7 (fun S9 => fnewa S9 1 60 (fun v10 S11 => fput S11 a0 1 3 v10 (fun S12 => fnewa S12 1 120 (fun v13 S14 => fput S14 a0 1 4 v13 (fun S15 => fput S15 a0 1 8 211 (fun S16 => some (0, S16))))))))))))
theorem e_X1_init {G : jG} {d : Nat} {S0 : jSt} (hd0 : 1 ≤ d) (a0 : Int) (S : jSt) (h0 : 0 ≤ (a0)) : J G yX1_init cX1_init 1 none d S0 0 [(0, 2, a0)] [] S (f_X1_init a0 S) := by
  unfold f_X1_init
  refine j_aload_n 0 dX1_init_0 rfl rfl ?_
  refine j_objInit lo_X1_3 oi_i oi_c (Nat.le_of_ble_eq_true rfl) (Nat.le_trans (Nat.le_of_ble_eq_true rfl) hd0) dX1_init_1 ?_
  refine j_aload_n 0 dX1_init_4 rfl rfl ?_
  refine j_bipush dX1_init_5 (by decide) ?_
  refine j_newai (j_r32 12 rfl) ac_i dX1_init_7 (fun (v1 : Int) (S2 : jSt) hv1 => ?_)
  refine j_putFr (ci := 1) (k := 0) (ty0 := tyX1) rfl in_X1 (Nat.le_of_ble_eq_true rfl) rfl tyX1_ok nmX1 rfl (Or.inr ⟨_, rfl⟩) rfl rfl rfl (by decide +kernel) hv1 fl_X1_9 dX1_init_9 (fun S3 => ?_)
  refine j_aload_n 0 dX1_init_12 rfl rfl ?_
  refine j_bipush dX1_init_13 (by decide) ?_
  refine j_newai (j_r32 12 rfl) ac_i dX1_init_15 (fun (v4 : Int) (S5 : jSt) hv4 => ?_)
  refine j_putFr (ci := 1) (k := 1) (ty0 := tyX1) rfl in_X1 (Nat.le_of_ble_eq_true rfl) rfl tyX1_ok nmX1 rfl (Or.inr ⟨_, rfl⟩) rfl rfl rfl (by decide +kernel) hv4 fl_X1_15 dX1_init_17 (fun S6 => ?_)
  refine j_aload_n 0 dX1_init_20 rfl rfl ?_
  refine j_iconst dX1_init_21 ?_
  refine j_newai (j_r32 5 rfl) ac_i dX1_init_22 (fun (v7 : Int) (S8 : jSt) hv7 => ?_)
  refine j_putFr (ci := 1) (k := 2) (ty0 := tyX1) rfl in_X1 (Nat.le_of_ble_eq_true rfl) rfl tyX1_ok nmX1 rfl (Or.inr ⟨_, rfl⟩) rfl rfl rfl (by decide +kernel) hv7 fl_X1_18 dX1_init_24 (fun S9 => ?_)
  refine j_aload_n 0 dX1_init_27 rfl rfl ?_
  refine j_bipush dX1_init_28 (by decide) ?_
  refine j_newai (j_r32 60 rfl) ac_i dX1_init_30 (fun (v10 : Int) (S11 : jSt) hv10 => ?_)
  refine j_putFr (ci := 1) (k := 3) (ty0 := tyX1) rfl in_X1 (Nat.le_of_ble_eq_true rfl) rfl tyX1_ok nmX1 rfl (Or.inr ⟨_, rfl⟩) rfl rfl rfl (by decide +kernel) hv10 fl_X1_21 dX1_init_32 (fun S12 => ?_)
  refine j_aload_n 0 dX1_init_35 rfl rfl ?_
  refine j_bipush dX1_init_36 (by decide) ?_
  refine j_newai (j_r32 120 rfl) ac_i dX1_init_38 (fun (v13 : Int) (S14 : jSt) hv13 => ?_)
  refine j_putFr (ci := 1) (k := 4) (ty0 := tyX1) rfl in_X1 (Nat.le_of_ble_eq_true rfl) rfl tyX1_ok nmX1 rfl (Or.inr ⟨_, rfl⟩) rfl rfl rfl (by decide +kernel) hv13 fl_X1_24 dX1_init_40 (fun S15 => ?_)
  refine j_aload_n 0 dX1_init_43 rfl rfl ?_
  refine j_sipush dX1_init_44 (by decide) ?_
  refine j_puti (ci := 1) (k := 8) (ty0 := tyX1) rfl in_X1 (Nat.le_of_ble_eq_true rfl) rfl tyX1_ok nmX1 rfl rfl (by decide +kernel) (j_r32 211 rfl) fl_X1_27 dX1_init_47 (fun S16 => ?_)
  exact j_return dX1_init_50
theorem c_X1_init {G : jG} (a0 : Int) (S : jSt) (h0 : 0 ≤ (a0)) : CT G yX1_init cX1_init 1 none 1 ([(2, a0)].map jval) S (f_X1_init a0 S) := ct_of [(2, a0)] (by decide) rfl (Nat.le_of_ble_eq_true rfl) (e_X1_init (Nat.le_refl _) a0 S h0)
-- X4_init
def f_X4_init (a0 : Int) (a1 : Int) (S : jSt) : Option (Int × jSt) :=
  fput S a0 4 0 (-1) (fun S1 => fput S1 a0 4 1 (-1) (fun S2 => fnewa S2 1 96 (fun v3 S4 => fput S4 a0 4 7 v3 (fun S5 => fnewa S5 1 300 (fun v6 S7 => fput S7 a0 4 8 v6 (fun S8 => fnewa S8 1 4 (fun v9 S10 => fput S10 a0 4 9 v9 (fun S11 => fnewa S11 1 4 (fun v12 S13 => fput S13 a0 4 10 v12 (fun S14 => fput S14 a0 4 2 a1 (fun S15 => some (0, S15))))))))))))
theorem e_X4_init {G : jG} {d : Nat} {S0 : jSt} (hd0 : 1 ≤ d) (a0 : Int) (a1 : Int) (S : jSt) (h0 : 0 ≤ (a0)) (h1 : 0 ≤ (a1)) : J G yX4_init cX4_init 2 none d S0 0 [(0, 2, a0), (1, 2, a1)] [] S (f_X4_init a0 a1 S) := by
  unfold f_X4_init
  refine j_aload_n 0 dX4_init_0 rfl rfl ?_
  refine j_objInit lo_X4_3 oi_i oi_c (Nat.le_of_ble_eq_true rfl) (Nat.le_trans (Nat.le_of_ble_eq_true rfl) hd0) dX4_init_1 ?_
  refine j_aload_n 0 dX4_init_4 rfl rfl ?_
  refine j_iconst dX4_init_5 ?_
  refine j_puti (ci := 4) (k := 0) (ty0 := tyX4) rfl in_X4 (Nat.le_of_ble_eq_true rfl) rfl tyX4_ok nmX4 rfl rfl (by decide +kernel) (j_r32 (-1) rfl) fl_X4_9 dX4_init_6 (fun S1 => ?_)
  refine j_aload_n 0 dX4_init_9 rfl rfl ?_
  refine j_iconst dX4_init_10 ?_
  refine j_puti (ci := 4) (k := 1) (ty0 := tyX4) rfl in_X4 (Nat.le_of_ble_eq_true rfl) rfl tyX4_ok nmX4 rfl rfl (by decide +kernel) (j_r32 (-1) rfl) fl_X4_15 dX4_init_11 (fun S2 => ?_)
  refine j_aload_n 0 dX4_init_14 rfl rfl ?_
  refine j_bipush dX4_init_15 (by decide) ?_
  refine j_newai (j_r32 96 rfl) ac_i dX4_init_17 (fun (v3 : Int) (S4 : jSt) hv3 => ?_)
  refine j_putFr (ci := 4) (k := 7) (ty0 := tyX4) rfl in_X4 (Nat.le_of_ble_eq_true rfl) rfl tyX4_ok nmX4 rfl (Or.inr ⟨_, rfl⟩) rfl rfl rfl (by decide +kernel) hv3 fl_X4_18 dX4_init_19 (fun S5 => ?_)
  refine j_aload_n 0 dX4_init_22 rfl rfl ?_
  refine j_sipush dX4_init_23 (by decide) ?_
  refine j_newai (j_r32 300 rfl) ac_i dX4_init_26 (fun (v6 : Int) (S7 : jSt) hv6 => ?_)
  refine j_putFr (ci := 4) (k := 8) (ty0 := tyX4) rfl in_X4 (Nat.le_of_ble_eq_true rfl) rfl tyX4_ok nmX4 rfl (Or.inr ⟨_, rfl⟩) rfl rfl rfl (by decide +kernel) hv6 fl_X4_22 dX4_init_28 (fun S8 => ?_)
  refine j_aload_n 0 dX4_init_31 rfl rfl ?_
  refine j_iconst dX4_init_32 ?_
  refine j_newai (j_r32 4 rfl) ac_i dX4_init_33 (fun (v9 : Int) (S10 : jSt) hv9 => ?_)
  refine j_putFr (ci := 4) (k := 9) (ty0 := tyX4) rfl in_X4 (Nat.le_of_ble_eq_true rfl) rfl tyX4_ok nmX4 rfl (Or.inr ⟨_, rfl⟩) rfl rfl rfl (by decide +kernel) hv9 fl_X4_25 dX4_init_35 (fun S11 => ?_)
  refine j_aload_n 0 dX4_init_38 rfl rfl ?_
  refine j_iconst dX4_init_39 ?_
  refine j_newai (j_r32 4 rfl) ac_i dX4_init_40 (fun (v12 : Int) (S13 : jSt) hv12 => ?_)
  refine j_putFr (ci := 4) (k := 10) (ty0 := tyX4) rfl in_X4 (Nat.le_of_ble_eq_true rfl) rfl tyX4_ok nmX4 rfl (Or.inr ⟨_, rfl⟩) rfl rfl rfl (by decide +kernel) hv12 fl_X4_28 dX4_init_42 (fun S14 => ?_)
  refine j_aload_n 0 dX4_init_45 rfl rfl ?_
  refine j_aload_n 1 dX4_init_46 rfl rfl ?_
  refine j_putFr (ci := 4) (k := 2) (ty0 := tyX4) rfl in_X4 (Nat.le_of_ble_eq_true rfl) rfl tyX4_ok nmX4 rfl (Or.inl ⟨_, rfl⟩) rfl rfl rfl (by decide +kernel) h1 fl_X4_31 dX4_init_47 (fun S15 => ?_)
  exact j_return dX4_init_50
theorem c_X4_init {G : jG} (a0 : Int) (a1 : Int) (S : jSt) (h0 : 0 ≤ (a0)) (h1 : 0 ≤ (a1)) : CT G yX4_init cX4_init 2 none 1 ([(2, a0), (2, a1)].map jval) S (f_X4_init a0 a1 S) := ct_of [(2, a0), (2, a1)] (by decide) rfl (Nat.le_of_ble_eq_true rfl) (e_X4_init (Nat.le_refl _) a0 a1 S h0 h1)
-- X2_init
def f_X2_init (a0 : Int) (a1 : Int) (S : jSt) : Option (Int × jSt) :=
  fnewa S 1 64 (fun v1 S2 => fput S2 a0 2 1 v1 (fun S3 => fnewa S3 1 9 (fun v4 S5 => fput S5 a0 2 2 v4 (fun S6 => fput S6 a0 2 0 a1 (fun S7 => some (0, S7))))))
theorem e_X2_init {G : jG} {d : Nat} {S0 : jSt} (hd0 : 1 ≤ d) (a0 : Int) (a1 : Int) (S : jSt) (h0 : 0 ≤ (a0)) (h1 : 0 ≤ (a1)) : J G yX2_init cX2_init 2 none d S0 0 [(0, 2, a0), (1, 2, a1)] [] S (f_X2_init a0 a1 S) := by
  unfold f_X2_init
  refine j_aload_n 0 dX2_init_0 rfl rfl ?_
  refine j_objInit lo_X2_3 oi_i oi_c (Nat.le_of_ble_eq_true rfl) (Nat.le_trans (Nat.le_of_ble_eq_true rfl) hd0) dX2_init_1 ?_
  refine j_aload_n 0 dX2_init_4 rfl rfl ?_
  refine j_bipush dX2_init_5 (by decide) ?_
  refine j_newai (j_r32 64 rfl) ac_i dX2_init_7 (fun (v1 : Int) (S2 : jSt) hv1 => ?_)
  refine j_putFr (ci := 2) (k := 1) (ty0 := tyX2) rfl in_X2 (Nat.le_of_ble_eq_true rfl) rfl tyX2_ok nmX2 rfl (Or.inr ⟨_, rfl⟩) rfl rfl rfl (by decide +kernel) hv1 fl_X2_9 dX2_init_9 (fun S3 => ?_)
  refine j_aload_n 0 dX2_init_12 rfl rfl ?_
  refine j_bipush dX2_init_13 (by decide) ?_
  refine j_newai (j_r32 9 rfl) ac_i dX2_init_15 (fun (v4 : Int) (S5 : jSt) hv4 => ?_)
  refine j_putFr (ci := 2) (k := 2) (ty0 := tyX2) rfl in_X2 (Nat.le_of_ble_eq_true rfl) rfl tyX2_ok nmX2 rfl (Or.inr ⟨_, rfl⟩) rfl rfl rfl (by decide +kernel) hv4 fl_X2_15 dX2_init_17 (fun S6 => ?_)
  refine j_aload_n 0 dX2_init_20 rfl rfl ?_
  refine j_aload_n 1 dX2_init_21 rfl rfl ?_
  refine j_putFr (ci := 2) (k := 0) (ty0 := tyX2) rfl in_X2 (Nat.le_of_ble_eq_true rfl) rfl tyX2_ok nmX2 rfl (Or.inl ⟨_, rfl⟩) rfl rfl rfl (by decide +kernel) h1 fl_X2_18 dX2_init_22 (fun S7 => ?_)
  exact j_return dX2_init_25
theorem c_X2_init {G : jG} (a0 : Int) (a1 : Int) (S : jSt) (h0 : 0 ≤ (a0)) (h1 : 0 ≤ (a1)) : CT G yX2_init cX2_init 2 none 1 ([(2, a0), (2, a1)].map jval) S (f_X2_init a0 a1 S) := ct_of [(2, a0), (2, a1)] (by decide) rfl (Nat.le_of_ble_eq_true rfl) (e_X2_init (Nat.le_refl _) a0 a1 S h0 h1)
-- X5_init
def f_X5_init (a0 : Int) (a1 : Int) (S : jSt) : Option (Int × jSt) :=
  fput S a0 5 0 (-1) (fun S1 => fput S1 a0 5 1 (-1) (fun S2 => fput S2 a0 5 2 a1 (fun S3 => fnew S3 2 (fun v4 S5 => fcall (f_X2_init v4 a1 S5) (fun v6 S7 => fput S7 a0 5 3 v4 (fun S8 => some (0, S8)))))))
theorem e_X5_init {G : jG} {d : Nat} {S0 : jSt} (hd0 : 2 ≤ d) (a0 : Int) (a1 : Int) (S : jSt) (h0 : 0 ≤ (a0)) (h1 : 0 ≤ (a1)) : J G yX5_init cX5_init 2 none d S0 0 [(0, 2, a0), (1, 2, a1)] [] S (f_X5_init a0 a1 S) := by
  unfold f_X5_init
  refine j_aload_n 0 dX5_init_0 rfl rfl ?_
  refine j_objInit lo_X5_3 oi_i oi_c (Nat.le_of_ble_eq_true rfl) (Nat.le_trans (Nat.le_of_ble_eq_true rfl) hd0) dX5_init_1 ?_
  refine j_aload_n 0 dX5_init_4 rfl rfl ?_
  refine j_iconst dX5_init_5 ?_
  refine j_puti (ci := 5) (k := 0) (ty0 := tyX5) rfl in_X5 (Nat.le_of_ble_eq_true rfl) rfl tyX5_ok nmX5 rfl rfl (by decide +kernel) (j_r32 (-1) rfl) fl_X5_9 dX5_init_6 (fun S1 => ?_)
  refine j_aload_n 0 dX5_init_9 rfl rfl ?_
  refine j_iconst dX5_init_10 ?_
  refine j_puti (ci := 5) (k := 1) (ty0 := tyX5) rfl in_X5 (Nat.le_of_ble_eq_true rfl) rfl tyX5_ok nmX5 rfl rfl (by decide +kernel) (j_r32 (-1) rfl) fl_X5_15 dX5_init_11 (fun S2 => ?_)
  refine j_aload_n 0 dX5_init_14 rfl rfl ?_
  refine j_aload_n 1 dX5_init_15 rfl rfl ?_
  refine j_putFr (ci := 5) (k := 2) (ty0 := tyX5) rfl in_X5 (Nat.le_of_ble_eq_true rfl) rfl tyX5_ok nmX5 rfl (Or.inl ⟨_, rfl⟩) rfl rfl rfl (by decide +kernel) h1 fl_X5_18 dX5_init_16 (fun S3 => ?_)
  refine j_aload_n 0 dX5_init_19 rfl rfl ?_
  refine j_new (ci := 2) rfl in_X2 rfl tyX2_ok rfl pl_X2 cl_X5_22 is_X2 iz_X2 dX5_init_20 (fun (v4 : Int) (S5 : jSt) hv4 => ?_)
  refine j_dup dX5_init_23 (fun h => nomatch h) ?_
  refine j_aload_n 1 dX5_init_24 rfl rfl ?_
  refine j_callI (As := [(2, a1)]) (st := [(2, v4), (2, a0)]) kc_X2_init (c_X2_init v4 a1 S5 hv4 h1) lm_X5_24 ki_X2_init rfl rfl (Nat.le_of_ble_eq_true rfl) (Nat.le_trans (m := 2) (Nat.le_of_ble_eq_true rfl) hd0) dX5_init_25 (fun v6 S7 => ?_)
  refine j_putFr (ci := 5) (k := 3) (ty0 := tyX5) rfl in_X5 (Nat.le_of_ble_eq_true rfl) rfl tyX5_ok nmX5 rfl (Or.inl ⟨_, rfl⟩) rfl rfl rfl (by decide +kernel) hv4 fl_X5_27 dX5_init_28 (fun S8 => ?_)
  exact j_return dX5_init_31
theorem c_X5_init {G : jG} (a0 : Int) (a1 : Int) (S : jSt) (h0 : 0 ≤ (a0)) (h1 : 0 ≤ (a1)) : CT G yX5_init cX5_init 2 none 2 ([(2, a0), (2, a1)].map jval) S (f_X5_init a0 a1 S) := ct_of [(2, a0), (2, a1)] (by decide) rfl (Nat.le_of_ble_eq_true rfl) (e_X5_init (Nat.le_refl _) a0 a1 S h0 h1)
